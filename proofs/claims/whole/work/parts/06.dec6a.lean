theorem dX6_init_0 : decode cX6_init 0 = .ok (.aload_n 0, 1) := by decide +kernel
theorem dX6_init_1 : decode cX6_init 1 = .ok (.invokespecial 1, 3) := by decide +kernel
theorem dX6_init_4 : decode cX6_init 4 = .ok (.aload_n 0, 1) := by decide +kernel
theorem dX6_init_5 : decode cX6_init 5 = .ok (.sipush 240, 3) := by decide +kernel
theorem dX6_init_8 : decode cX6_init 8 = .ok (.newarray .int, 2) := by decide +kernel
theorem dX6_init_10 : decode cX6_init 10 = .ok (.putfield 7, 3) := by decide +kernel
theorem dX6_init_13 : decode cX6_init 13 = .ok (.aload_n 0, 1) := by decide +kernel
theorem dX6_init_14 : decode cX6_init 14 = .ok (.sipush 1920, 3) := by decide +kernel
theorem dX6_init_17 : decode cX6_init 17 = .ok (.newarray .int, 2) := by decide +kernel
theorem dX6_init_19 : decode cX6_init 19 = .ok (.putfield 13, 3) := by decide +kernel
theorem dX6_init_22 : decode cX6_init 22 = .ok (.aload_n 0, 1) := by decide +kernel
theorem dX6_init_23 : decode cX6_init 23 = .ok (.sipush 240, 3) := by decide +kernel
theorem dX6_init_26 : decode cX6_init 26 = .ok (.newarray .int, 2) := by decide +kernel
theorem dX6_init_28 : decode cX6_init 28 = .ok (.putfield 16, 3) := by decide +kernel
theorem dX6_init_31 : decode cX6_init 31 = .ok (.aload_n 0, 1) := by decide +kernel
theorem dX6_init_32 : decode cX6_init 32 = .ok (.sipush 240, 3) := by decide +kernel
theorem dX6_init_35 : decode cX6_init 35 = .ok (.newarray .int, 2) := by decide +kernel
theorem dX6_init_37 : decode cX6_init 37 = .ok (.putfield 19, 3) := by decide +kernel
theorem dX6_init_40 : decode cX6_init 40 = .ok (.aload_n 0, 1) := by decide +kernel
theorem dX6_init_41 : decode cX6_init 41 = .ok (.bipush 60, 2) := by decide +kernel
theorem dX6_init_43 : decode cX6_init 43 = .ok (.newarray .int, 2) := by decide +kernel
theorem dX6_init_45 : decode cX6_init 45 = .ok (.putfield 22, 3) := by decide +kernel
theorem dX6_init_48 : decode cX6_init 48 = .ok (.aload_n 0, 1) := by decide +kernel
theorem dX6_init_49 : decode cX6_init 49 = .ok (.iconst (-1), 1) := by decide +kernel
theorem dX6_init_50 : decode cX6_init 50 = .ok (.putfield 25, 3) := by decide +kernel
theorem dX6_init_53 : decode cX6_init 53 = .ok (.aload_n 0, 1) := by decide +kernel
theorem dX6_init_54 : decode cX6_init 54 = .ok (.bipush 40, 2) := by decide +kernel
theorem dX6_init_56 : decode cX6_init 56 = .ok (.newarray .char, 2) := by decide +kernel
theorem dX6_init_58 : decode cX6_init 58 = .ok (.putfield 29, 3) := by decide +kernel
theorem dX6_init_61 : decode cX6_init 61 = .ok (.aload_n 0, 1) := by decide +kernel
theorem dX6_init_62 : decode cX6_init 62 = .ok (.bipush 124, 2) := by decide +kernel
theorem dX6_init_64 : decode cX6_init 64 = .ok (.newarray .int, 2) := by decide +kernel
theorem dX6_init_66 : decode cX6_init 66 = .ok (.putfield 33, 3) := by decide +kernel
theorem dX6_init_69 : decode cX6_init 69 = .ok (.return_, 1) := by decide +kernel
theorem dX6_thrown_0 : decode cX6_thrown 0 = .ok (.aload_n 0, 1) := by decide +kernel
theorem dX6_thrown_1 : decode cX6_thrown 1 = .ok (.getfield 36, 3) := by decide +kernel
theorem dX6_thrown_4 : decode cX6_thrown 4 = .ok (.ireturn, 1) := by decide +kernel
theorem dX6_fails_0 : decode cX6_fails 0 = .ok (.aload_n 0, 1) := by decide +kernel
theorem dX6_fails_1 : decode cX6_fails 1 = .ok (.iload_n 1, 1) := by decide +kernel
theorem dX6_fails_2 : decode cX6_fails 2 = .ok (.putfield 36, 3) := by decide +kernel
theorem dX6_fails_5 : decode cX6_fails 5 = .ok (.aload_n 0, 1) := by decide +kernel
theorem dX6_fails_6 : decode cX6_fails 6 = .ok (.iconst 0, 1) := by decide +kernel
theorem dX6_fails_7 : decode cX6_fails 7 = .ok (.putfield 39, 3) := by decide +kernel
theorem dX6_fails_10 : decode cX6_fails 10 = .ok (.iload_n 1, 1) := by decide +kernel
theorem dX6_fails_11 : decode cX6_fails 11 = .ok (.ifCond .le 7, 3) := by decide +kernel
theorem dX6_fails_14 : decode cX6_fails 14 = .ok (.iconst 1, 1) := by decide +kernel
theorem dX6_fails_15 : decode cX6_fails 15 = .ok (.goto 4, 3) := by decide +kernel
theorem dX6_fails_18 : decode cX6_fails 18 = .ok (.iconst 0, 1) := by decide +kernel
theorem dX6_fails_19 : decode cX6_fails 19 = .ok (.ireturn, 1) := by decide +kernel
theorem dX6_refuses_0 : decode cX6_refuses 0 = .ok (.aload_n 0, 1) := by decide +kernel
theorem dX6_refuses_1 : decode cX6_refuses 1 = .ok (.iload_n 1, 1) := by decide +kernel
theorem dX6_refuses_2 : decode cX6_refuses 2 = .ok (.putfield 36, 3) := by decide +kernel
theorem dX6_refuses_5 : decode cX6_refuses 5 = .ok (.aload_n 0, 1) := by decide +kernel
theorem dX6_refuses_6 : decode cX6_refuses 6 = .ok (.iconst 1, 1) := by decide +kernel
theorem dX6_refuses_7 : decode cX6_refuses 7 = .ok (.putfield 39, 3) := by decide +kernel
theorem dX6_refuses_10 : decode cX6_refuses 10 = .ok (.aload_n 0, 1) := by decide +kernel
theorem dX6_refuses_11 : decode cX6_refuses 11 = .ok (.iload_n 2, 1) := by decide +kernel
theorem dX6_refuses_12 : decode cX6_refuses 12 = .ok (.putfield 43, 3) := by decide +kernel
theorem dX6_refuses_15 : decode cX6_refuses 15 = .ok (.aload_n 0, 1) := by decide +kernel
theorem dX6_refuses_16 : decode cX6_refuses 16 = .ok (.iload_n 3, 1) := by decide +kernel
theorem dX6_refuses_17 : decode cX6_refuses 17 = .ok (.putfield 46, 3) := by decide +kernel
theorem dX6_refuses_20 : decode cX6_refuses 20 = .ok (.aload_n 0, 1) := by decide +kernel
theorem dX6_refuses_21 : decode cX6_refuses 21 = .ok (.iconst 0, 1) := by decide +kernel
theorem dX6_refuses_22 : decode cX6_refuses 22 = .ok (.putfield 49, 3) := by decide +kernel
theorem dX6_refuses_25 : decode cX6_refuses 25 = .ok (.aload_n 0, 1) := by decide +kernel
theorem dX6_refuses_26 : decode cX6_refuses 26 = .ok (.iconst 0, 1) := by decide +kernel
theorem dX6_refuses_27 : decode cX6_refuses 27 = .ok (.putfield 52, 3) := by decide +kernel
theorem dX6_refuses_30 : decode cX6_refuses 30 = .ok (.iconst 0, 1) := by decide +kernel
theorem dX6_refuses_31 : decode cX6_refuses 31 = .ok (.ireturn, 1) := by decide +kernel
theorem dX6_in_0 : decode cX6_in 0 = .ok (.iload_n 0, 1) := by decide +kernel
theorem dX6_in_1 : decode cX6_in 1 = .ok (.iload_n 1, 1) := by decide +kernel
theorem dX6_in_2 : decode cX6_in 2 = .ok (.if_icmp .lt 12, 3) := by decide +kernel
theorem dX6_in_5 : decode cX6_in 5 = .ok (.iload_n 0, 1) := by decide +kernel
theorem dX6_in_6 : decode cX6_in 6 = .ok (.iload_n 2, 1) := by decide +kernel
theorem dX6_in_7 : decode cX6_in 7 = .ok (.if_icmp .gt 7, 3) := by decide +kernel
theorem dX6_in_10 : decode cX6_in 10 = .ok (.iconst 1, 1) := by decide +kernel
theorem dX6_in_11 : decode cX6_in 11 = .ok (.goto 4, 3) := by decide +kernel
theorem dX6_in_14 : decode cX6_in 14 = .ok (.iconst 0, 1) := by decide +kernel
theorem dX6_in_15 : decode cX6_in 15 = .ok (.ireturn, 1) := by decide +kernel
theorem dX6_atMost_0 : decode cX6_atMost 0 = .ok (.iload_n 0, 1) := by decide +kernel
theorem dX6_atMost_1 : decode cX6_atMost 1 = .ok (.iload_n 1, 1) := by decide +kernel
theorem dX6_atMost_2 : decode cX6_atMost 2 = .ok (.if_icmp .ge 7, 3) := by decide +kernel
theorem dX6_atMost_5 : decode cX6_atMost 5 = .ok (.iload_n 0, 1) := by decide +kernel
theorem dX6_atMost_6 : decode cX6_atMost 6 = .ok (.goto 4, 3) := by decide +kernel
theorem dX6_atMost_9 : decode cX6_atMost 9 = .ok (.iload_n 1, 1) := by decide +kernel
theorem dX6_atMost_10 : decode cX6_atMost 10 = .ok (.ireturn, 1) := by decide +kernel
theorem dX6_apart_0 : decode cX6_apart 0 = .ok (.iload_n 0, 1) := by decide +kernel
theorem dX6_apart_1 : decode cX6_apart 1 = .ok (.iload_n 1, 1) := by decide +kernel
theorem dX6_apart_2 : decode cX6_apart 2 = .ok (.if_icmp .ge 9, 3) := by decide +kernel
theorem dX6_apart_5 : decode cX6_apart 5 = .ok (.iload_n 1, 1) := by decide +kernel
theorem dX6_apart_6 : decode cX6_apart 6 = .ok (.iload_n 0, 1) := by decide +kernel
theorem dX6_apart_7 : decode cX6_apart 7 = .ok (.isub, 1) := by decide +kernel
theorem dX6_apart_8 : decode cX6_apart 8 = .ok (.goto 6, 3) := by decide +kernel
theorem dX6_apart_11 : decode cX6_apart 11 = .ok (.iload_n 0, 1) := by decide +kernel
theorem dX6_apart_12 : decode cX6_apart 12 = .ok (.iload_n 1, 1) := by decide +kernel
theorem dX6_apart_13 : decode cX6_apart 13 = .ok (.isub, 1) := by decide +kernel
theorem dX6_apart_14 : decode cX6_apart 14 = .ok (.ireturn, 1) := by decide +kernel
theorem dX6_copies_0 : decode cX6_copies 0 = .ok (.iconst 0, 1) := by decide +kernel
theorem dX6_copies_1 : decode cX6_copies 1 = .ok (.istore 4, 2) := by decide +kernel
theorem dX6_copies_3 : decode cX6_copies 3 = .ok (.iload 4, 2) := by decide +kernel
theorem dX6_copies_5 : decode cX6_copies 5 = .ok (.sipush 240, 3) := by decide +kernel
theorem dX6_copies_8 : decode cX6_copies 8 = .ok (.if_icmp .ge 21, 3) := by decide +kernel
theorem dX6_copies_11 : decode cX6_copies 11 = .ok (.aload_n 2, 1) := by decide +kernel
theorem dX6_copies_12 : decode cX6_copies 12 = .ok (.iload_n 3, 1) := by decide +kernel
theorem dX6_copies_13 : decode cX6_copies 13 = .ok (.iload 4, 2) := by decide +kernel
theorem dX6_copies_15 : decode cX6_copies 15 = .ok (.iadd, 1) := by decide +kernel
theorem dX6_copies_16 : decode cX6_copies 16 = .ok (.aload_n 0, 1) := by decide +kernel
theorem dX6_copies_17 : decode cX6_copies 17 = .ok (.iload_n 1, 1) := by decide +kernel
theorem dX6_copies_18 : decode cX6_copies 18 = .ok (.iload 4, 2) := by decide +kernel
theorem dX6_copies_20 : decode cX6_copies 20 = .ok (.iadd, 1) := by decide +kernel
theorem dX6_copies_21 : decode cX6_copies 21 = .ok (.iaload, 1) := by decide +kernel
theorem dX6_copies_22 : decode cX6_copies 22 = .ok (.iastore, 1) := by decide +kernel
theorem dX6_copies_23 : decode cX6_copies 23 = .ok (.iinc 4 1, 3) := by decide +kernel
theorem dX6_copies_26 : decode cX6_copies 26 = .ok (.goto (-23), 3) := by decide +kernel
theorem dX6_copies_29 : decode cX6_copies 29 = .ok (.return_, 1) := by decide +kernel
theorem dX6_keeps_0 : decode cX6_keeps 0 = .ok (.aload_n 0, 1) := by decide +kernel
theorem dX6_keeps_1 : decode cX6_keeps 1 = .ok (.iconst 0, 1) := by decide +kernel
theorem dX6_keeps_2 : decode cX6_keeps 2 = .ok (.putfield 36, 3) := by decide +kernel
theorem dX6_keeps_5 : decode cX6_keeps 5 = .ok (.aload_n 0, 1) := by decide +kernel
theorem dX6_keeps_6 : decode cX6_keeps 6 = .ok (.getfield 55, 3) := by decide +kernel
theorem dX6_keeps_9 : decode cX6_keeps 9 = .ok (.ifCond .eq 4, 3) := by decide +kernel
theorem dX6_keeps_12 : decode cX6_keeps 12 = .ok (.return_, 1) := by decide +kernel
theorem dX6_keeps_13 : decode cX6_keeps 13 = .ok (.aload_n 0, 1) := by decide +kernel
theorem dX6_keeps_14 : decode cX6_keeps 14 = .ok (.getfield 58, 3) := by decide +kernel
theorem dX6_keeps_17 : decode cX6_keeps 17 = .ok (.bipush 8, 2) := by decide +kernel
theorem dX6_keeps_19 : decode cX6_keeps 19 = .ok (.if_icmp .ne 44, 3) := by decide +kernel
theorem dX6_keeps_22 : decode cX6_keeps 22 = .ok (.iconst 0, 1) := by decide +kernel
theorem dX6_keeps_23 : decode cX6_keeps 23 = .ok (.istore_n 2, 1) := by decide +kernel
theorem dX6_keeps_24 : decode cX6_keeps 24 = .ok (.iload_n 2, 1) := by decide +kernel
theorem dX6_keeps_25 : decode cX6_keeps 25 = .ok (.sipush 1680, 3) := by decide +kernel
theorem dX6_keeps_28 : decode cX6_keeps 28 = .ok (.if_icmp .ge 25, 3) := by decide +kernel
theorem dX6_keeps_31 : decode cX6_keeps 31 = .ok (.aload_n 0, 1) := by decide +kernel
theorem dX6_keeps_32 : decode cX6_keeps 32 = .ok (.getfield 13, 3) := by decide +kernel
theorem dX6_keeps_35 : decode cX6_keeps 35 = .ok (.iload_n 2, 1) := by decide +kernel
theorem dX6_keeps_36 : decode cX6_keeps 36 = .ok (.aload_n 0, 1) := by decide +kernel
theorem dX6_keeps_37 : decode cX6_keeps 37 = .ok (.getfield 13, 3) := by decide +kernel
theorem dX6_keeps_40 : decode cX6_keeps 40 = .ok (.iload_n 2, 1) := by decide +kernel
theorem dX6_keeps_41 : decode cX6_keeps 41 = .ok (.sipush 240, 3) := by decide +kernel
theorem dX6_keeps_44 : decode cX6_keeps 44 = .ok (.iadd, 1) := by decide +kernel
theorem dX6_keeps_45 : decode cX6_keeps 45 = .ok (.iaload, 1) := by decide +kernel
theorem dX6_keeps_46 : decode cX6_keeps 46 = .ok (.iastore, 1) := by decide +kernel
theorem dX6_keeps_47 : decode cX6_keeps 47 = .ok (.iinc 2 1, 3) := by decide +kernel
theorem dX6_keeps_50 : decode cX6_keeps 50 = .ok (.goto (-26), 3) := by decide +kernel
theorem dX6_keeps_53 : decode cX6_keeps 53 = .ok (.aload_n 0, 1) := by decide +kernel
theorem dX6_keeps_54 : decode cX6_keeps 54 = .ok (.dup, 1) := by decide +kernel
theorem dX6_keeps_55 : decode cX6_keeps 55 = .ok (.getfield 58, 3) := by decide +kernel
theorem dX6_keeps_58 : decode cX6_keeps 58 = .ok (.iconst 1, 1) := by decide +kernel
theorem dX6_keeps_59 : decode cX6_keeps 59 = .ok (.isub, 1) := by decide +kernel
theorem dX6_keeps_60 : decode cX6_keeps 60 = .ok (.putfield 58, 3) := by decide +kernel
theorem dX6_keeps_63 : decode cX6_keeps 63 = .ok (.aload_n 1, 1) := by decide +kernel
theorem dX6_keeps_64 : decode cX6_keeps 64 = .ok (.iconst 0, 1) := by decide +kernel
theorem dX6_keeps_65 : decode cX6_keeps 65 = .ok (.aload_n 0, 1) := by decide +kernel
theorem dX6_keeps_66 : decode cX6_keeps 66 = .ok (.getfield 13, 3) := by decide +kernel
theorem dX6_keeps_69 : decode cX6_keeps 69 = .ok (.sipush 240, 3) := by decide +kernel
theorem dX6_keeps_72 : decode cX6_keeps 72 = .ok (.aload_n 0, 1) := by decide +kernel
theorem dX6_keeps_73 : decode cX6_keeps 73 = .ok (.getfield 58, 3) := by decide +kernel
theorem dX6_keeps_76 : decode cX6_keeps 76 = .ok (.imul, 1) := by decide +kernel
theorem dX6_keeps_77 : decode cX6_keeps 77 = .ok (.invokestatic 61, 3) := by decide +kernel
theorem dX6_keeps_80 : decode cX6_keeps 80 = .ok (.aload_n 0, 1) := by decide +kernel
theorem dX6_keeps_81 : decode cX6_keeps 81 = .ok (.dup, 1) := by decide +kernel
theorem dX6_keeps_82 : decode cX6_keeps 82 = .ok (.getfield 58, 3) := by decide +kernel
theorem dX6_keeps_85 : decode cX6_keeps 85 = .ok (.iconst 1, 1) := by decide +kernel
theorem dX6_keeps_86 : decode cX6_keeps 86 = .ok (.iadd, 1) := by decide +kernel
theorem dX6_keeps_87 : decode cX6_keeps 87 = .ok (.putfield 58, 3) := by decide +kernel
theorem dX6_keeps_90 : decode cX6_keeps 90 = .ok (.return_, 1) := by decide +kernel
theorem dX6_by_0 : decode cX6_by 0 = .ok (.aload_n 0, 1) := by decide +kernel
theorem dX6_by_1 : decode cX6_by 1 = .ok (.getfield 7, 3) := by decide +kernel
theorem dX6_by_4 : decode cX6_by 4 = .ok (.bipush 10, 2) := by decide +kernel
theorem dX6_by_6 : decode cX6_by 6 = .ok (.iconst 3, 1) := by decide +kernel
theorem dX6_by_7 : decode cX6_by 7 = .ok (.iload_n 1, 1) := by decide +kernel
theorem dX6_by_8 : decode cX6_by 8 = .ok (.imul, 1) := by decide +kernel
theorem dX6_by_9 : decode cX6_by 9 = .ok (.iadd, 1) := by decide +kernel
theorem dX6_by_10 : decode cX6_by 10 = .ok (.iload_n 2, 1) := by decide +kernel
theorem dX6_by_11 : decode cX6_by 11 = .ok (.iadd, 1) := by decide +kernel
theorem dX6_by_12 : decode cX6_by 12 = .ok (.iaload, 1) := by decide +kernel
theorem dX6_by_13 : decode cX6_by 13 = .ok (.ireturn, 1) := by decide +kernel
theorem dX6_adds_0 : decode cX6_adds 0 = .ok (.aload_n 0, 1) := by decide +kernel
theorem dX6_adds_1 : decode cX6_adds 1 = .ok (.getfield 7, 3) := by decide +kernel
theorem dX6_adds_4 : decode cX6_adds 4 = .ok (.bipush 10, 2) := by decide +kernel
theorem dX6_adds_6 : decode cX6_adds 6 = .ok (.iconst 3, 1) := by decide +kernel
theorem dX6_adds_7 : decode cX6_adds 7 = .ok (.iload_n 1, 1) := by decide +kernel
theorem dX6_adds_8 : decode cX6_adds 8 = .ok (.imul, 1) := by decide +kernel
theorem dX6_adds_9 : decode cX6_adds 9 = .ok (.iadd, 1) := by decide +kernel
theorem dX6_adds_10 : decode cX6_adds 10 = .ok (.iload_n 2, 1) := by decide +kernel
theorem dX6_adds_11 : decode cX6_adds 11 = .ok (.iadd, 1) := by decide +kernel
theorem dX6_adds_12 : decode cX6_adds 12 = .ok (.dup2, 1) := by decide +kernel
theorem dX6_adds_13 : decode cX6_adds 13 = .ok (.iaload, 1) := by decide +kernel
theorem dX6_adds_14 : decode cX6_adds 14 = .ok (.iload_n 3, 1) := by decide +kernel
theorem dX6_adds_15 : decode cX6_adds 15 = .ok (.iadd, 1) := by decide +kernel
theorem dX6_adds_16 : decode cX6_adds 16 = .ok (.iastore, 1) := by decide +kernel
theorem dX6_adds_17 : decode cX6_adds 17 = .ok (.return_, 1) := by decide +kernel
theorem dX6_gets_0 : decode cX6_gets 0 = .ok (.aload_n 0, 1) := by decide +kernel
theorem dX6_gets_1 : decode cX6_gets 1 = .ok (.getfield 7, 3) := by decide +kernel
theorem dX6_gets_4 : decode cX6_gets 4 = .ok (.bipush 10, 2) := by decide +kernel
theorem dX6_gets_6 : decode cX6_gets 6 = .ok (.iconst 3, 1) := by decide +kernel
theorem dX6_gets_7 : decode cX6_gets 7 = .ok (.iload_n 1, 1) := by decide +kernel
theorem dX6_gets_8 : decode cX6_gets 8 = .ok (.imul, 1) := by decide +kernel
theorem dX6_gets_9 : decode cX6_gets 9 = .ok (.iadd, 1) := by decide +kernel
theorem dX6_gets_10 : decode cX6_gets 10 = .ok (.iload_n 2, 1) := by decide +kernel
theorem dX6_gets_11 : decode cX6_gets 11 = .ok (.iadd, 1) := by decide +kernel
theorem dX6_gets_12 : decode cX6_gets 12 = .ok (.aload_n 0, 1) := by decide +kernel
theorem dX6_gets_13 : decode cX6_gets 13 = .ok (.iload_n 1, 1) := by decide +kernel
theorem dX6_gets_14 : decode cX6_gets 14 = .ok (.iload_n 2, 1) := by decide +kernel
theorem dX6_gets_15 : decode cX6_gets 15 = .ok (.invokevirtual 65, 3) := by decide +kernel
theorem dX6_gets_18 : decode cX6_gets 18 = .ok (.iload_n 3, 1) := by decide +kernel
theorem dX6_gets_19 : decode cX6_gets 19 = .ok (.iadd, 1) := by decide +kernel
theorem dX6_gets_20 : decode cX6_gets 20 = .ok (.bipush 99, 2) := by decide +kernel
theorem dX6_gets_22 : decode cX6_gets 22 = .ok (.invokestatic 69, 3) := by decide +kernel
theorem dX6_gets_25 : decode cX6_gets 25 = .ok (.iastore, 1) := by decide +kernel
theorem dX6_gets_26 : decode cX6_gets 26 = .ok (.return_, 1) := by decide +kernel
theorem dX6_of_0 : decode cX6_of 0 = .ok (.aload_n 0, 1) := by decide +kernel
theorem dX6_of_1 : decode cX6_of 1 = .ok (.getfield 7, 3) := by decide +kernel
theorem dX6_of_4 : decode cX6_of 4 = .ok (.bipush 22, 2) := by decide +kernel
theorem dX6_of_6 : decode cX6_of 6 = .ok (.bipush 26, 2) := by decide +kernel
theorem dX6_of_8 : decode cX6_of 8 = .ok (.iload_n 1, 1) := by decide +kernel
theorem dX6_of_9 : decode cX6_of 9 = .ok (.imul, 1) := by decide +kernel
theorem dX6_of_10 : decode cX6_of 10 = .ok (.iadd, 1) := by decide +kernel
theorem dX6_of_11 : decode cX6_of 11 = .ok (.iload_n 2, 1) := by decide +kernel
theorem dX6_of_12 : decode cX6_of 12 = .ok (.iadd, 1) := by decide +kernel
theorem dX6_of_13 : decode cX6_of 13 = .ok (.iaload, 1) := by decide +kernel
theorem dX6_of_14 : decode cX6_of 14 = .ok (.ireturn, 1) := by decide +kernel
theorem dX6_lays_0 : decode cX6_lays 0 = .ok (.aload_n 0, 1) := by decide +kernel
theorem dX6_lays_1 : decode cX6_lays 1 = .ok (.getfield 7, 3) := by decide +kernel
theorem dX6_lays_4 : decode cX6_lays 4 = .ok (.bipush 22, 2) := by decide +kernel
theorem dX6_lays_6 : decode cX6_lays 6 = .ok (.bipush 26, 2) := by decide +kernel
theorem dX6_lays_8 : decode cX6_lays 8 = .ok (.iload_n 1, 1) := by decide +kernel
theorem dX6_lays_9 : decode cX6_lays 9 = .ok (.imul, 1) := by decide +kernel
theorem dX6_lays_10 : decode cX6_lays 10 = .ok (.iadd, 1) := by decide +kernel
theorem dX6_lays_11 : decode cX6_lays 11 = .ok (.iload_n 2, 1) := by decide +kernel
theorem dX6_lays_12 : decode cX6_lays 12 = .ok (.iadd, 1) := by decide +kernel
theorem dX6_lays_13 : decode cX6_lays 13 = .ok (.iload_n 3, 1) := by decide +kernel
theorem dX6_lays_14 : decode cX6_lays 14 = .ok (.iastore, 1) := by decide +kernel
theorem dX6_lays_15 : decode cX6_lays 15 = .ok (.return_, 1) := by decide +kernel
theorem dX6_isHouse_0 : decode cX6_isHouse 0 = .ok (.iload_n 1, 1) := by decide +kernel
theorem dX6_isHouse_1 : decode cX6_isHouse 1 = .ok (.iconst 0, 1) := by decide +kernel
theorem dX6_isHouse_2 : decode cX6_isHouse 2 = .ok (.aload_n 0, 1) := by decide +kernel
theorem dX6_isHouse_3 : decode cX6_isHouse 3 = .ok (.getfield 7, 3) := by decide +kernel
theorem dX6_isHouse_6 : decode cX6_isHouse 6 = .ok (.iconst 0, 1) := by decide +kernel
theorem dX6_isHouse_7 : decode cX6_isHouse 7 = .ok (.iaload, 1) := by decide +kernel
theorem dX6_isHouse_8 : decode cX6_isHouse 8 = .ok (.iconst 1, 1) := by decide +kernel
theorem dX6_isHouse_9 : decode cX6_isHouse 9 = .ok (.isub, 1) := by decide +kernel
theorem dX6_isHouse_10 : decode cX6_isHouse 10 = .ok (.invokestatic 72, 3) := by decide +kernel
theorem dX6_isHouse_13 : decode cX6_isHouse 13 = .ok (.ireturn, 1) := by decide +kernel
theorem dX6_isSheet_0 : decode cX6_isSheet 0 = .ok (.iload_n 1, 1) := by decide +kernel
theorem dX6_isSheet_1 : decode cX6_isSheet 1 = .ok (.iconst 0, 1) := by decide +kernel
theorem dX6_isSheet_2 : decode cX6_isSheet 2 = .ok (.aload_n 0, 1) := by decide +kernel
theorem dX6_isSheet_3 : decode cX6_isSheet 3 = .ok (.getfield 7, 3) := by decide +kernel
theorem dX6_isSheet_6 : decode cX6_isSheet 6 = .ok (.iconst 1, 1) := by decide +kernel
theorem dX6_isSheet_7 : decode cX6_isSheet 7 = .ok (.iaload, 1) := by decide +kernel
theorem dX6_isSheet_8 : decode cX6_isSheet 8 = .ok (.iconst 1, 1) := by decide +kernel
theorem dX6_isSheet_9 : decode cX6_isSheet 9 = .ok (.isub, 1) := by decide +kernel
theorem dX6_isSheet_10 : decode cX6_isSheet 10 = .ok (.invokestatic 72, 3) := by decide +kernel
theorem dX6_isSheet_13 : decode cX6_isSheet 13 = .ok (.ireturn, 1) := by decide +kernel
theorem dX6_isPlace_0 : decode cX6_isPlace 0 = .ok (.aload_n 0, 1) := by decide +kernel
theorem dX6_isPlace_1 : decode cX6_isPlace 1 = .ok (.iload_n 1, 1) := by decide +kernel
theorem dX6_isPlace_2 : decode cX6_isPlace 2 = .ok (.invokevirtual 76, 3) := by decide +kernel
theorem dX6_isPlace_5 : decode cX6_isPlace 5 = .ok (.ifCond .eq 23, 3) := by decide +kernel
theorem dX6_isPlace_8 : decode cX6_isPlace 8 = .ok (.iload_n 2, 1) := by decide +kernel
theorem dX6_isPlace_9 : decode cX6_isPlace 9 = .ok (.iconst 0, 1) := by decide +kernel
theorem dX6_isPlace_10 : decode cX6_isPlace 10 = .ok (.aload_n 0, 1) := by decide +kernel
theorem dX6_isPlace_11 : decode cX6_isPlace 11 = .ok (.iload_n 1, 1) := by decide +kernel
theorem dX6_isPlace_12 : decode cX6_isPlace 12 = .ok (.iconst 1, 1) := by decide +kernel
theorem dX6_isPlace_13 : decode cX6_isPlace 13 = .ok (.invokevirtual 80, 3) := by decide +kernel
theorem dX6_isPlace_16 : decode cX6_isPlace 16 = .ok (.iconst 1, 1) := by decide +kernel
theorem dX6_isPlace_17 : decode cX6_isPlace 17 = .ok (.isub, 1) := by decide +kernel
theorem dX6_isPlace_18 : decode cX6_isPlace 18 = .ok (.invokestatic 72, 3) := by decide +kernel
theorem dX6_isPlace_21 : decode cX6_isPlace 21 = .ok (.ifCond .eq 7, 3) := by decide +kernel
theorem dX6_isPlace_24 : decode cX6_isPlace 24 = .ok (.iconst 1, 1) := by decide +kernel
theorem dX6_isPlace_25 : decode cX6_isPlace 25 = .ok (.goto 4, 3) := by decide +kernel
theorem dX6_isPlace_28 : decode cX6_isPlace 28 = .ok (.iconst 0, 1) := by decide +kernel
theorem dX6_isPlace_29 : decode cX6_isPlace 29 = .ok (.ireturn, 1) := by decide +kernel
theorem dX6_mark_0 : decode cX6_mark 0 = .ok (.aload_n 0, 1) := by decide +kernel
theorem dX6_mark_1 : decode cX6_mark 1 = .ok (.iload_n 1, 1) := by decide +kernel
theorem dX6_mark_2 : decode cX6_mark 2 = .ok (.bipush 18, 2) := by decide +kernel
theorem dX6_mark_4 : decode cX6_mark 4 = .ok (.iload_n 2, 1) := by decide +kernel
theorem dX6_mark_5 : decode cX6_mark 5 = .ok (.iadd, 1) := by decide +kernel
theorem dX6_mark_6 : decode cX6_mark 6 = .ok (.invokevirtual 80, 3) := by decide +kernel
theorem dX6_mark_9 : decode cX6_mark 9 = .ok (.ireturn, 1) := by decide +kernel
theorem dX6_bad_0 : decode cX6_bad 0 = .ok (.aload_n 0, 1) := by decide +kernel
theorem dX6_bad_1 : decode cX6_bad 1 = .ok (.iload_n 1, 1) := by decide +kernel
theorem dX6_bad_2 : decode cX6_bad 2 = .ok (.bipush 10, 2) := by decide +kernel
theorem dX6_bad_4 : decode cX6_bad 4 = .ok (.iload_n 2, 1) := by decide +kernel
theorem dX6_bad_5 : decode cX6_bad 5 = .ok (.iadd, 1) := by decide +kernel
theorem dX6_bad_6 : decode cX6_bad 6 = .ok (.invokevirtual 80, 3) := by decide +kernel
theorem dX6_bad_9 : decode cX6_bad 9 = .ok (.aload_n 0, 1) := by decide +kernel
theorem dX6_bad_10 : decode cX6_bad 10 = .ok (.iload_n 1, 1) := by decide +kernel
theorem dX6_bad_11 : decode cX6_bad 11 = .ok (.iconst 2, 1) := by decide +kernel
theorem dX6_bad_12 : decode cX6_bad 12 = .ok (.iload_n 2, 1) := by decide +kernel
theorem dX6_bad_13 : decode cX6_bad 13 = .ok (.iadd, 1) := by decide +kernel
theorem dX6_bad_14 : decode cX6_bad 14 = .ok (.invokevirtual 80, 3) := by decide +kernel
theorem dX6_bad_17 : decode cX6_bad 17 = .ok (.invokestatic 83, 3) := by decide +kernel
theorem dX6_bad_20 : decode cX6_bad 20 = .ok (.ireturn, 1) := by decide +kernel
theorem dX6_house_0 : decode cX6_house 0 = .ok (.aload_n 0, 1) := by decide +kernel
theorem dX6_house_1 : decode cX6_house 1 = .ok (.iload_n 1, 1) := by decide +kernel
theorem dX6_house_2 : decode cX6_house 2 = .ok (.iconst 0, 1) := by decide +kernel
theorem dX6_house_3 : decode cX6_house 3 = .ok (.bipush 99, 2) := by decide +kernel
theorem dX6_house_5 : decode cX6_house 5 = .ok (.invokestatic 72, 3) := by decide +kernel
theorem dX6_house_8 : decode cX6_house 8 = .ok (.ifCond .eq 7, 3) := by decide +kernel
theorem dX6_house_11 : decode cX6_house 11 = .ok (.iconst 0, 1) := by decide +kernel
theorem dX6_house_12 : decode cX6_house 12 = .ok (.goto 4, 3) := by decide +kernel
theorem dX6_house_15 : decode cX6_house 15 = .ok (.iconst 1, 1) := by decide +kernel
theorem dX6_house_16 : decode cX6_house 16 = .ok (.invokevirtual 86, 3) := by decide +kernel
theorem dX6_house_19 : decode cX6_house 19 = .ok (.ifCond .eq 5, 3) := by decide +kernel
theorem dX6_house_22 : decode cX6_house 22 = .ok (.iconst 0, 1) := by decide +kernel
theorem dX6_house_23 : decode cX6_house 23 = .ok (.ireturn, 1) := by decide +kernel
theorem dX6_house_24 : decode cX6_house 24 = .ok (.aload_n 0, 1) := by decide +kernel
theorem dX6_house_25 : decode cX6_house 25 = .ok (.getfield 7, 3) := by decide +kernel
theorem dX6_house_28 : decode cX6_house 28 = .ok (.iconst 0, 1) := by decide +kernel
theorem dX6_house_29 : decode cX6_house 29 = .ok (.iaload, 1) := by decide +kernel
theorem dX6_house_30 : decode cX6_house 30 = .ok (.iconst 4, 1) := by decide +kernel
theorem dX6_house_31 : decode cX6_house 31 = .ok (.if_icmp .ne 11, 3) := by decide +kernel
theorem dX6_house_34 : decode cX6_house 34 = .ok (.aload_n 0, 1) := by decide +kernel
theorem dX6_house_35 : decode cX6_house 35 = .ok (.iconst 2, 1) := by decide +kernel
theorem dX6_house_36 : decode cX6_house 36 = .ok (.iconst 1, 1) := by decide +kernel
theorem dX6_house_37 : decode cX6_house 37 = .ok (.iconst 4, 1) := by decide +kernel
theorem dX6_house_38 : decode cX6_house 38 = .ok (.invokevirtual 89, 3) := by decide +kernel
theorem dX6_house_41 : decode cX6_house 41 = .ok (.ireturn, 1) := by decide +kernel
theorem dX6_house_42 : decode cX6_house 42 = .ok (.aload_n 0, 1) := by decide +kernel
theorem dX6_house_43 : decode cX6_house 43 = .ok (.aload_n 0, 1) := by decide +kernel
theorem dX6_house_44 : decode cX6_house 44 = .ok (.getfield 7, 3) := by decide +kernel
theorem dX6_house_47 : decode cX6_house 47 = .ok (.invokevirtual 93, 3) := by decide +kernel
theorem dX6_house_50 : decode cX6_house 50 = .ok (.aload_n 0, 1) := by decide +kernel
theorem dX6_house_51 : decode cX6_house 51 = .ok (.getfield 7, 3) := by decide +kernel
theorem dX6_house_54 : decode cX6_house 54 = .ok (.iconst 0, 1) := by decide +kernel
theorem dX6_house_55 : decode cX6_house 55 = .ok (.iaload, 1) := by decide +kernel
theorem dX6_house_56 : decode cX6_house 56 = .ok (.istore_n 2, 1) := by decide +kernel
theorem dX6_house_57 : decode cX6_house 57 = .ok (.aload_n 0, 1) := by decide +kernel
theorem dX6_house_58 : decode cX6_house 58 = .ok (.getfield 7, 3) := by decide +kernel
theorem dX6_house_61 : decode cX6_house 61 = .ok (.iconst 0, 1) := by decide +kernel
theorem dX6_house_62 : decode cX6_house 62 = .ok (.dup2, 1) := by decide +kernel
theorem dX6_house_63 : decode cX6_house 63 = .ok (.iaload, 1) := by decide +kernel
theorem dX6_house_64 : decode cX6_house 64 = .ok (.iconst 1, 1) := by decide +kernel
theorem dX6_house_65 : decode cX6_house 65 = .ok (.iadd, 1) := by decide +kernel
theorem dX6_house_66 : decode cX6_house 66 = .ok (.iastore, 1) := by decide +kernel
theorem dX6_house_67 : decode cX6_house 67 = .ok (.iconst 0, 1) := by decide +kernel
theorem dX6_house_68 : decode cX6_house 68 = .ok (.istore_n 3, 1) := by decide +kernel
theorem dX6_house_69 : decode cX6_house 69 = .ok (.iload_n 3, 1) := by decide +kernel
theorem dX6_house_70 : decode cX6_house 70 = .ok (.iconst 3, 1) := by decide +kernel
theorem dX6_house_71 : decode cX6_house 71 = .ok (.if_icmp .ge 23, 3) := by decide +kernel
theorem dX6_house_74 : decode cX6_house 74 = .ok (.aload_n 0, 1) := by decide +kernel
theorem dX6_house_75 : decode cX6_house 75 = .ok (.getfield 7, 3) := by decide +kernel
theorem dX6_house_78 : decode cX6_house 78 = .ok (.bipush 10, 2) := by decide +kernel
theorem dX6_house_80 : decode cX6_house 80 = .ok (.iconst 3, 1) := by decide +kernel
theorem dX6_house_81 : decode cX6_house 81 = .ok (.iload_n 2, 1) := by decide +kernel
theorem dX6_house_82 : decode cX6_house 82 = .ok (.imul, 1) := by decide +kernel
theorem dX6_house_83 : decode cX6_house 83 = .ok (.iadd, 1) := by decide +kernel
theorem dX6_house_84 : decode cX6_house 84 = .ok (.iload_n 3, 1) := by decide +kernel
theorem dX6_house_85 : decode cX6_house 85 = .ok (.iadd, 1) := by decide +kernel
theorem dX6_house_86 : decode cX6_house 86 = .ok (.iconst 0, 1) := by decide +kernel
theorem dX6_house_87 : decode cX6_house 87 = .ok (.iastore, 1) := by decide +kernel
theorem dX6_house_88 : decode cX6_house 88 = .ok (.iinc 3 1, 3) := by decide +kernel
theorem dX6_house_91 : decode cX6_house 91 = .ok (.goto (-22), 3) := by decide +kernel
theorem dX6_house_94 : decode cX6_house 94 = .ok (.aload_n 0, 1) := by decide +kernel
theorem dX6_house_95 : decode cX6_house 95 = .ok (.iload_n 2, 1) := by decide +kernel
theorem dX6_house_96 : decode cX6_house 96 = .ok (.iconst 0, 1) := by decide +kernel
theorem dX6_house_97 : decode cX6_house 97 = .ok (.iload_n 1, 1) := by decide +kernel
theorem dX6_house_98 : decode cX6_house 98 = .ok (.invokevirtual 97, 3) := by decide +kernel
theorem dX6_house_101 : decode cX6_house 101 = .ok (.iload_n 2, 1) := by decide +kernel
theorem dX6_house_102 : decode cX6_house 102 = .ok (.ireturn, 1) := by decide +kernel
theorem dX6_letters_0 : decode cX6_letters 0 = .ok (.iconst 0, 1) := by decide +kernel
theorem dX6_letters_1 : decode cX6_letters 1 = .ok (.istore_n 1, 1) := by decide +kernel
theorem dX6_letters_2 : decode cX6_letters 2 = .ok (.iload_n 0, 1) := by decide +kernel
theorem dX6_letters_3 : decode cX6_letters 3 = .ok (.istore_n 2, 1) := by decide +kernel
theorem dX6_letters_4 : decode cX6_letters 4 = .ok (.iload_n 2, 1) := by decide +kernel
theorem dX6_letters_5 : decode cX6_letters 5 = .ok (.ifCond .le 29, 3) := by decide +kernel
theorem dX6_letters_8 : decode cX6_letters 8 = .ok (.iload_n 2, 1) := by decide +kernel
theorem dX6_letters_9 : decode cX6_letters 9 = .ok (.bipush 10, 2) := by decide +kernel
theorem dX6_letters_11 : decode cX6_letters 11 = .ok (.irem, 1) := by decide +kernel
theorem dX6_letters_12 : decode cX6_letters 12 = .ok (.iconst 1, 1) := by decide +kernel
theorem dX6_letters_13 : decode cX6_letters 13 = .ok (.bipush 6, 2) := by decide +kernel
theorem dX6_letters_15 : decode cX6_letters 15 = .ok (.invokestatic 72, 3) := by decide +kernel
theorem dX6_letters_18 : decode cX6_letters 18 = .ok (.ifCond .ne 5, 3) := by decide +kernel
theorem dX6_letters_21 : decode cX6_letters 21 = .ok (.iconst 0, 1) := by decide +kernel
theorem dX6_letters_22 : decode cX6_letters 22 = .ok (.ireturn, 1) := by decide +kernel
theorem dX6_letters_23 : decode cX6_letters 23 = .ok (.iinc 1 1, 3) := by decide +kernel
theorem dX6_letters_26 : decode cX6_letters 26 = .ok (.iload_n 2, 1) := by decide +kernel
theorem dX6_letters_27 : decode cX6_letters 27 = .ok (.bipush 10, 2) := by decide +kernel
theorem dX6_letters_29 : decode cX6_letters 29 = .ok (.idiv, 1) := by decide +kernel
theorem dX6_letters_30 : decode cX6_letters 30 = .ok (.istore_n 2, 1) := by decide +kernel
theorem dX6_letters_31 : decode cX6_letters 31 = .ok (.goto (-27), 3) := by decide +kernel
theorem dX6_letters_34 : decode cX6_letters 34 = .ok (.iload_n 1, 1) := by decide +kernel
theorem dX6_letters_35 : decode cX6_letters 35 = .ok (.iconst 3, 1) := by decide +kernel
theorem dX6_letters_36 : decode cX6_letters 36 = .ok (.bipush 8, 2) := by decide +kernel
theorem dX6_letters_38 : decode cX6_letters 38 = .ok (.invokestatic 72, 3) := by decide +kernel
theorem dX6_letters_41 : decode cX6_letters 41 = .ok (.ifCond .eq 7, 3) := by decide +kernel
theorem dX6_letters_44 : decode cX6_letters 44 = .ok (.iload_n 1, 1) := by decide +kernel
theorem dX6_letters_45 : decode cX6_letters 45 = .ok (.goto 4, 3) := by decide +kernel
theorem dX6_letters_48 : decode cX6_letters 48 = .ok (.iconst 0, 1) := by decide +kernel
theorem dX6_letters_49 : decode cX6_letters 49 = .ok (.ireturn, 1) := by decide +kernel
theorem dX6_sheet_0 : decode cX6_sheet 0 = .ok (.aload_n 0, 1) := by decide +kernel
theorem dX6_sheet_1 : decode cX6_sheet 1 = .ok (.aload_n 0, 1) := by decide +kernel
theorem dX6_sheet_2 : decode cX6_sheet 2 = .ok (.iload_n 1, 1) := by decide +kernel
theorem dX6_sheet_3 : decode cX6_sheet 3 = .ok (.invokevirtual 101, 3) := by decide +kernel
theorem dX6_sheet_6 : decode cX6_sheet 6 = .ok (.ifCond .ne 7, 3) := by decide +kernel
theorem dX6_sheet_9 : decode cX6_sheet 9 = .ok (.iconst 1, 1) := by decide +kernel
theorem dX6_sheet_10 : decode cX6_sheet 10 = .ok (.goto 15, 3) := by decide +kernel
theorem dX6_sheet_13 : decode cX6_sheet 13 = .ok (.iload_n 2, 1) := by decide +kernel
theorem dX6_sheet_14 : decode cX6_sheet 14 = .ok (.invokestatic 104, 3) := by decide +kernel
theorem dX6_sheet_17 : decode cX6_sheet 17 = .ok (.ifCond .ne 7, 3) := by decide +kernel
theorem dX6_sheet_20 : decode cX6_sheet 20 = .ok (.iconst 2, 1) := by decide +kernel
theorem dX6_sheet_21 : decode cX6_sheet 21 = .ok (.goto 4, 3) := by decide +kernel
theorem dX6_sheet_24 : decode cX6_sheet 24 = .ok (.iconst 0, 1) := by decide +kernel
theorem dX6_sheet_25 : decode cX6_sheet 25 = .ok (.invokevirtual 86, 3) := by decide +kernel
theorem dX6_sheet_28 : decode cX6_sheet 28 = .ok (.ifCond .eq 5, 3) := by decide +kernel
theorem dX6_sheet_31 : decode cX6_sheet 31 = .ok (.iconst 0, 1) := by decide +kernel
theorem dX6_sheet_32 : decode cX6_sheet 32 = .ok (.ireturn, 1) := by decide +kernel
theorem dX6_sheet_33 : decode cX6_sheet 33 = .ok (.aload_n 0, 1) := by decide +kernel
theorem dX6_sheet_34 : decode cX6_sheet 34 = .ok (.getfield 7, 3) := by decide +kernel
theorem dX6_sheet_37 : decode cX6_sheet 37 = .ok (.iconst 1, 1) := by decide +kernel
theorem dX6_sheet_38 : decode cX6_sheet 38 = .ok (.iaload, 1) := by decide +kernel
theorem dX6_sheet_39 : decode cX6_sheet 39 = .ok (.bipush 8, 2) := by decide +kernel
theorem dX6_sheet_41 : decode cX6_sheet 41 = .ok (.if_icmp .ne 12, 3) := by decide +kernel
theorem dX6_sheet_44 : decode cX6_sheet 44 = .ok (.aload_n 0, 1) := by decide +kernel
theorem dX6_sheet_45 : decode cX6_sheet 45 = .ok (.iconst 3, 1) := by decide +kernel
theorem dX6_sheet_46 : decode cX6_sheet 46 = .ok (.iconst 1, 1) := by decide +kernel
theorem dX6_sheet_47 : decode cX6_sheet 47 = .ok (.bipush 8, 2) := by decide +kernel
theorem dX6_sheet_49 : decode cX6_sheet 49 = .ok (.invokevirtual 89, 3) := by decide +kernel
theorem dX6_sheet_52 : decode cX6_sheet 52 = .ok (.ireturn, 1) := by decide +kernel
theorem dX6_sheet_53 : decode cX6_sheet 53 = .ok (.aload_n 0, 1) := by decide +kernel
theorem dX6_sheet_54 : decode cX6_sheet 54 = .ok (.aload_n 0, 1) := by decide +kernel
theorem dX6_sheet_55 : decode cX6_sheet 55 = .ok (.getfield 7, 3) := by decide +kernel
theorem dX6_sheet_58 : decode cX6_sheet 58 = .ok (.invokevirtual 93, 3) := by decide +kernel
theorem dX6_sheet_61 : decode cX6_sheet 61 = .ok (.aload_n 0, 1) := by decide +kernel
theorem dX6_sheet_62 : decode cX6_sheet 62 = .ok (.getfield 7, 3) := by decide +kernel
theorem dX6_sheet_65 : decode cX6_sheet 65 = .ok (.iconst 1, 1) := by decide +kernel
theorem dX6_sheet_66 : decode cX6_sheet 66 = .ok (.iaload, 1) := by decide +kernel
theorem dX6_sheet_67 : decode cX6_sheet 67 = .ok (.istore_n 3, 1) := by decide +kernel
theorem dX6_sheet_68 : decode cX6_sheet 68 = .ok (.aload_n 0, 1) := by decide +kernel
theorem dX6_sheet_69 : decode cX6_sheet 69 = .ok (.getfield 7, 3) := by decide +kernel
theorem dX6_sheet_72 : decode cX6_sheet 72 = .ok (.iconst 1, 1) := by decide +kernel
theorem dX6_sheet_73 : decode cX6_sheet 73 = .ok (.dup2, 1) := by decide +kernel
theorem dX6_sheet_74 : decode cX6_sheet 74 = .ok (.iaload, 1) := by decide +kernel
theorem dX6_sheet_75 : decode cX6_sheet 75 = .ok (.iconst 1, 1) := by decide +kernel
theorem dX6_sheet_76 : decode cX6_sheet 76 = .ok (.iadd, 1) := by decide +kernel
theorem dX6_sheet_77 : decode cX6_sheet 77 = .ok (.iastore, 1) := by decide +kernel
theorem dX6_sheet_78 : decode cX6_sheet 78 = .ok (.iconst 0, 1) := by decide +kernel
theorem dX6_sheet_79 : decode cX6_sheet 79 = .ok (.istore 4, 2) := by decide +kernel
theorem dX6_sheet_81 : decode cX6_sheet 81 = .ok (.iload 4, 2) := by decide +kernel
theorem dX6_sheet_83 : decode cX6_sheet 83 = .ok (.bipush 26, 2) := by decide +kernel
theorem dX6_sheet_85 : decode cX6_sheet 85 = .ok (.if_icmp .ge 17, 3) := by decide +kernel
theorem dX6_sheet_88 : decode cX6_sheet 88 = .ok (.aload_n 0, 1) := by decide +kernel
theorem dX6_sheet_89 : decode cX6_sheet 89 = .ok (.iload_n 3, 1) := by decide +kernel
theorem dX6_sheet_90 : decode cX6_sheet 90 = .ok (.iload 4, 2) := by decide +kernel
theorem dX6_sheet_92 : decode cX6_sheet 92 = .ok (.iconst 0, 1) := by decide +kernel
theorem dX6_sheet_93 : decode cX6_sheet 93 = .ok (.invokevirtual 108, 3) := by decide +kernel
theorem dX6_sheet_96 : decode cX6_sheet 96 = .ok (.iinc 4 1, 3) := by decide +kernel
theorem dX6_sheet_99 : decode cX6_sheet 99 = .ok (.goto (-18), 3) := by decide +kernel
theorem dX6_sheet_102 : decode cX6_sheet 102 = .ok (.aload_n 0, 1) := by decide +kernel
theorem dX6_sheet_103 : decode cX6_sheet 103 = .ok (.iload_n 3, 1) := by decide +kernel
theorem dX6_sheet_104 : decode cX6_sheet 104 = .ok (.iconst 0, 1) := by decide +kernel
theorem dX6_sheet_105 : decode cX6_sheet 105 = .ok (.iload_n 1, 1) := by decide +kernel
theorem dX6_sheet_106 : decode cX6_sheet 106 = .ok (.invokevirtual 108, 3) := by decide +kernel
theorem dX6_sheet_109 : decode cX6_sheet 109 = .ok (.aload_n 0, 1) := by decide +kernel
theorem dX6_sheet_110 : decode cX6_sheet 110 = .ok (.iload_n 3, 1) := by decide +kernel
theorem dX6_sheet_111 : decode cX6_sheet 111 = .ok (.iconst 1, 1) := by decide +kernel
theorem dX6_sheet_112 : decode cX6_sheet 112 = .ok (.iload_n 2, 1) := by decide +kernel
theorem dX6_sheet_113 : decode cX6_sheet 113 = .ok (.invokestatic 104, 3) := by decide +kernel
theorem dX6_sheet_116 : decode cX6_sheet 116 = .ok (.invokevirtual 108, 3) := by decide +kernel
theorem dX6_sheet_119 : decode cX6_sheet 119 = .ok (.iload_n 2, 1) := by decide +kernel
theorem dX6_sheet_120 : decode cX6_sheet 120 = .ok (.istore 4, 2) := by decide +kernel
theorem dX6_sheet_122 : decode cX6_sheet 122 = .ok (.iload_n 2, 1) := by decide +kernel
theorem dX6_sheet_123 : decode cX6_sheet 123 = .ok (.invokestatic 104, 3) := by decide +kernel
theorem dX6_sheet_126 : decode cX6_sheet 126 = .ok (.iconst 1, 1) := by decide +kernel
theorem dX6_sheet_127 : decode cX6_sheet 127 = .ok (.isub, 1) := by decide +kernel
theorem dX6_sheet_128 : decode cX6_sheet 128 = .ok (.istore 5, 2) := by decide +kernel
theorem dX6_sheet_130 : decode cX6_sheet 130 = .ok (.iload 5, 2) := by decide +kernel
theorem dX6_sheet_132 : decode cX6_sheet 132 = .ok (.ifCond .lt 45, 3) := by decide +kernel
theorem dX6_sheet_135 : decode cX6_sheet 135 = .ok (.aload_n 0, 1) := by decide +kernel
theorem dX6_sheet_136 : decode cX6_sheet 136 = .ok (.iload_n 3, 1) := by decide +kernel
theorem dX6_sheet_137 : decode cX6_sheet 137 = .ok (.iconst 2, 1) := by decide +kernel
theorem dX6_sheet_138 : decode cX6_sheet 138 = .ok (.iload 5, 2) := by decide +kernel
theorem dX6_sheet_140 : decode cX6_sheet 140 = .ok (.iadd, 1) := by decide +kernel
theorem dX6_sheet_141 : decode cX6_sheet 141 = .ok (.iload 4, 2) := by decide +kernel
theorem dX6_sheet_143 : decode cX6_sheet 143 = .ok (.bipush 10, 2) := by decide +kernel
theorem dX6_sheet_145 : decode cX6_sheet 145 = .ok (.irem, 1) := by decide +kernel
theorem dX6_sheet_146 : decode cX6_sheet 146 = .ok (.invokevirtual 108, 3) := by decide +kernel
theorem dX6_sheet_149 : decode cX6_sheet 149 = .ok (.aload_n 0, 1) := by decide +kernel
theorem dX6_sheet_150 : decode cX6_sheet 150 = .ok (.iload_n 3, 1) := by decide +kernel
theorem dX6_sheet_151 : decode cX6_sheet 151 = .ok (.bipush 10, 2) := by decide +kernel
theorem dX6_sheet_153 : decode cX6_sheet 153 = .ok (.iload 5, 2) := by decide +kernel
theorem dX6_sheet_155 : decode cX6_sheet 155 = .ok (.iadd, 1) := by decide +kernel
theorem dX6_sheet_156 : decode cX6_sheet 156 = .ok (.iload 4, 2) := by decide +kernel
theorem dX6_sheet_158 : decode cX6_sheet 158 = .ok (.bipush 10, 2) := by decide +kernel
theorem dX6_sheet_160 : decode cX6_sheet 160 = .ok (.irem, 1) := by decide +kernel
theorem dX6_sheet_161 : decode cX6_sheet 161 = .ok (.invokevirtual 108, 3) := by decide +kernel
theorem dX6_sheet_164 : decode cX6_sheet 164 = .ok (.iload 4, 2) := by decide +kernel
theorem dX6_sheet_166 : decode cX6_sheet 166 = .ok (.bipush 10, 2) := by decide +kernel
theorem dX6_sheet_168 : decode cX6_sheet 168 = .ok (.idiv, 1) := by decide +kernel
theorem dX6_sheet_169 : decode cX6_sheet 169 = .ok (.istore 4, 2) := by decide +kernel
theorem dX6_sheet_171 : decode cX6_sheet 171 = .ok (.iinc 5 (-1), 3) := by decide +kernel
theorem dX6_sheet_174 : decode cX6_sheet 174 = .ok (.goto (-44), 3) := by decide +kernel
theorem dX6_sheet_177 : decode cX6_sheet 177 = .ok (.iload_n 3, 1) := by decide +kernel
theorem dX6_sheet_178 : decode cX6_sheet 178 = .ok (.ireturn, 1) := by decide +kernel
theorem dX6_take_0 : decode cX6_take 0 = .ok (.aload_n 0, 1) := by decide +kernel
theorem dX6_take_1 : decode cX6_take 1 = .ok (.aload_n 0, 1) := by decide +kernel
theorem dX6_take_2 : decode cX6_take 2 = .ok (.iload_n 1, 1) := by decide +kernel
theorem dX6_take_3 : decode cX6_take 3 = .ok (.invokevirtual 76, 3) := by decide +kernel
theorem dX6_take_6 : decode cX6_take 6 = .ok (.ifCond .eq 7, 3) := by decide +kernel
theorem dX6_take_9 : decode cX6_take 9 = .ok (.iconst 0, 1) := by decide +kernel
theorem dX6_take_10 : decode cX6_take 10 = .ok (.goto 4, 3) := by decide +kernel
theorem dX6_take_13 : decode cX6_take 13 = .ok (.iconst 1, 1) := by decide +kernel
theorem dX6_take_14 : decode cX6_take 14 = .ok (.invokevirtual 86, 3) := by decide +kernel
theorem dX6_take_17 : decode cX6_take 17 = .ok (.ifCond .eq 5, 3) := by decide +kernel
theorem dX6_take_20 : decode cX6_take 20 = .ok (.iconst 0, 1) := by decide +kernel
theorem dX6_take_21 : decode cX6_take 21 = .ok (.ireturn, 1) := by decide +kernel
theorem dX6_take_22 : decode cX6_take 22 = .ok (.aload_n 0, 1) := by decide +kernel
theorem dX6_take_23 : decode cX6_take 23 = .ok (.aload_n 0, 1) := by decide +kernel
theorem dX6_take_24 : decode cX6_take 24 = .ok (.getfield 7, 3) := by decide +kernel
theorem dX6_take_27 : decode cX6_take 27 = .ok (.invokevirtual 93, 3) := by decide +kernel
theorem dX6_take_30 : decode cX6_take 30 = .ok (.aload_n 0, 1) := by decide +kernel
theorem dX6_take_31 : decode cX6_take 31 = .ok (.getfield 7, 3) := by decide +kernel
theorem dX6_take_34 : decode cX6_take 34 = .ok (.iconst 1, 1) := by decide +kernel
theorem dX6_take_35 : decode cX6_take 35 = .ok (.dup2, 1) := by decide +kernel
theorem dX6_take_36 : decode cX6_take 36 = .ok (.iaload, 1) := by decide +kernel
theorem dX6_take_37 : decode cX6_take 37 = .ok (.iconst 1, 1) := by decide +kernel
theorem dX6_take_38 : decode cX6_take 38 = .ok (.isub, 1) := by decide +kernel
theorem dX6_take_39 : decode cX6_take 39 = .ok (.iastore, 1) := by decide +kernel
theorem dX6_take_40 : decode cX6_take 40 = .ok (.bipush 22, 2) := by decide +kernel
theorem dX6_take_42 : decode cX6_take 42 = .ok (.bipush 26, 2) := by decide +kernel
theorem dX6_take_44 : decode cX6_take 44 = .ok (.iload_n 1, 1) := by decide +kernel
theorem dX6_take_45 : decode cX6_take 45 = .ok (.imul, 1) := by decide +kernel
theorem dX6_take_46 : decode cX6_take 46 = .ok (.iadd, 1) := by decide +kernel
theorem dX6_take_47 : decode cX6_take 47 = .ok (.istore_n 2, 1) := by decide +kernel
theorem dX6_take_48 : decode cX6_take 48 = .ok (.iload_n 2, 1) := by decide +kernel
theorem dX6_take_49 : decode cX6_take 49 = .ok (.bipush 22, 2) := by decide +kernel
theorem dX6_take_51 : decode cX6_take 51 = .ok (.bipush 26, 2) := by decide +kernel
theorem dX6_take_53 : decode cX6_take 53 = .ok (.aload_n 0, 1) := by decide +kernel
theorem dX6_take_54 : decode cX6_take 54 = .ok (.getfield 7, 3) := by decide +kernel
theorem dX6_take_57 : decode cX6_take 57 = .ok (.iconst 1, 1) := by decide +kernel
theorem dX6_take_58 : decode cX6_take 58 = .ok (.iaload, 1) := by decide +kernel
theorem dX6_take_59 : decode cX6_take 59 = .ok (.imul, 1) := by decide +kernel
theorem dX6_take_60 : decode cX6_take 60 = .ok (.iadd, 1) := by decide +kernel
theorem dX6_take_61 : decode cX6_take 61 = .ok (.if_icmp .ge 24, 3) := by decide +kernel
theorem dX6_take_64 : decode cX6_take 64 = .ok (.aload_n 0, 1) := by decide +kernel
theorem dX6_take_65 : decode cX6_take 65 = .ok (.getfield 7, 3) := by decide +kernel
theorem dX6_take_68 : decode cX6_take 68 = .ok (.iload_n 2, 1) := by decide +kernel
theorem dX6_take_69 : decode cX6_take 69 = .ok (.aload_n 0, 1) := by decide +kernel
theorem dX6_take_70 : decode cX6_take 70 = .ok (.getfield 7, 3) := by decide +kernel
theorem dX6_take_73 : decode cX6_take 73 = .ok (.iload_n 2, 1) := by decide +kernel
theorem dX6_take_74 : decode cX6_take 74 = .ok (.bipush 26, 2) := by decide +kernel
theorem dX6_take_76 : decode cX6_take 76 = .ok (.iadd, 1) := by decide +kernel
theorem dX6_take_77 : decode cX6_take 77 = .ok (.iaload, 1) := by decide +kernel
theorem dX6_take_78 : decode cX6_take 78 = .ok (.iastore, 1) := by decide +kernel
theorem dX6_take_79 : decode cX6_take 79 = .ok (.iinc 2 1, 3) := by decide +kernel
theorem dX6_take_82 : decode cX6_take 82 = .ok (.goto (-34), 3) := by decide +kernel
theorem dX6_take_85 : decode cX6_take 85 = .ok (.iconst 0, 1) := by decide +kernel
theorem dX6_take_86 : decode cX6_take 86 = .ok (.istore_n 2, 1) := by decide +kernel
theorem dX6_take_87 : decode cX6_take 87 = .ok (.iload_n 2, 1) := by decide +kernel
theorem dX6_take_88 : decode cX6_take 88 = .ok (.bipush 26, 2) := by decide +kernel
theorem dX6_take_90 : decode cX6_take 90 = .ok (.if_icmp .ge 21, 3) := by decide +kernel
theorem dX6_take_93 : decode cX6_take 93 = .ok (.aload_n 0, 1) := by decide +kernel
theorem dX6_take_94 : decode cX6_take 94 = .ok (.aload_n 0, 1) := by decide +kernel
theorem dX6_take_95 : decode cX6_take 95 = .ok (.getfield 7, 3) := by decide +kernel
theorem dX6_take_98 : decode cX6_take 98 = .ok (.iconst 1, 1) := by decide +kernel
theorem dX6_take_99 : decode cX6_take 99 = .ok (.iaload, 1) := by decide +kernel
theorem dX6_take_100 : decode cX6_take 100 = .ok (.iload_n 2, 1) := by decide +kernel
theorem dX6_take_101 : decode cX6_take 101 = .ok (.iconst 0, 1) := by decide +kernel
theorem dX6_take_102 : decode cX6_take 102 = .ok (.invokevirtual 108, 3) := by decide +kernel
theorem dX6_take_105 : decode cX6_take 105 = .ok (.iinc 2 1, 3) := by decide +kernel
theorem dX6_take_108 : decode cX6_take 108 = .ok (.goto (-21), 3) := by decide +kernel
theorem dX6_take_111 : decode cX6_take 111 = .ok (.aload_n 0, 1) := by decide +kernel
theorem dX6_take_112 : decode cX6_take 112 = .ok (.getfield 7, 3) := by decide +kernel
theorem dX6_take_115 : decode cX6_take 115 = .ok (.iconst 1, 1) := by decide +kernel
theorem dX6_take_116 : decode cX6_take 116 = .ok (.iaload, 1) := by decide +kernel
theorem dX6_take_117 : decode cX6_take 117 = .ok (.ireturn, 1) := by decide +kernel
theorem dX6_misprints_0 : decode cX6_misprints 0 = .ok (.iconst 0, 1) := by decide +kernel
theorem dX6_misprints_1 : decode cX6_misprints 1 = .ok (.istore_n 3, 1) := by decide +kernel
theorem dX6_misprints_2 : decode cX6_misprints 2 = .ok (.iconst 0, 1) := by decide +kernel
theorem dX6_misprints_3 : decode cX6_misprints 3 = .ok (.istore 4, 2) := by decide +kernel
theorem dX6_misprints_5 : decode cX6_misprints 5 = .ok (.iload 4, 2) := by decide +kernel
theorem dX6_misprints_7 : decode cX6_misprints 7 = .ok (.aload_n 0, 1) := by decide +kernel
theorem dX6_misprints_8 : decode cX6_misprints 8 = .ok (.iload_n 1, 1) := by decide +kernel
theorem dX6_misprints_9 : decode cX6_misprints 9 = .ok (.iconst 1, 1) := by decide +kernel
theorem dX6_misprints_10 : decode cX6_misprints 10 = .ok (.invokevirtual 80, 3) := by decide +kernel
theorem dX6_misprints_13 : decode cX6_misprints 13 = .ok (.if_icmp .ge 28, 3) := by decide +kernel
theorem dX6_misprints_16 : decode cX6_misprints 16 = .ok (.iload_n 3, 1) := by decide +kernel
theorem dX6_misprints_17 : decode cX6_misprints 17 = .ok (.aload_n 0, 1) := by decide +kernel
theorem dX6_misprints_18 : decode cX6_misprints 18 = .ok (.iload_n 1, 1) := by decide +kernel
theorem dX6_misprints_19 : decode cX6_misprints 19 = .ok (.iload 4, 2) := by decide +kernel
theorem dX6_misprints_21 : decode cX6_misprints 21 = .ok (.invokevirtual 111, 3) := by decide +kernel
theorem dX6_misprints_24 : decode cX6_misprints 24 = .ok (.iload_n 2, 1) := by decide +kernel
theorem dX6_misprints_25 : decode cX6_misprints 25 = .ok (.if_icmp .lt 7, 3) := by decide +kernel
theorem dX6_misprints_28 : decode cX6_misprints 28 = .ok (.iconst 1, 1) := by decide +kernel
theorem dX6_misprints_29 : decode cX6_misprints 29 = .ok (.goto 4, 3) := by decide +kernel
theorem dX6_misprints_32 : decode cX6_misprints 32 = .ok (.iconst 0, 1) := by decide +kernel
theorem dX6_misprints_33 : decode cX6_misprints 33 = .ok (.iadd, 1) := by decide +kernel
theorem dX6_misprints_34 : decode cX6_misprints 34 = .ok (.istore_n 3, 1) := by decide +kernel
theorem dX6_misprints_35 : decode cX6_misprints 35 = .ok (.iinc 4 1, 3) := by decide +kernel
theorem dX6_misprints_38 : decode cX6_misprints 38 = .ok (.goto (-33), 3) := by decide +kernel
theorem dX6_misprints_41 : decode cX6_misprints 41 = .ok (.iload_n 3, 1) := by decide +kernel
theorem dX6_misprints_42 : decode cX6_misprints 42 = .ok (.ireturn, 1) := by decide +kernel
theorem dX6_set_0 : decode cX6_set 0 = .ok (.aload_n 0, 1) := by decide +kernel
theorem dX6_set_1 : decode cX6_set 1 = .ok (.aload_n 0, 1) := by decide +kernel
theorem dX6_set_2 : decode cX6_set 2 = .ok (.iload_n 1, 1) := by decide +kernel
theorem dX6_set_3 : decode cX6_set 3 = .ok (.iload_n 2, 1) := by decide +kernel
theorem dX6_set_4 : decode cX6_set 4 = .ok (.invokevirtual 114, 3) := by decide +kernel
theorem dX6_set_7 : decode cX6_set 7 = .ok (.ifCond .ne 7, 3) := by decide +kernel
theorem dX6_set_10 : decode cX6_set 10 = .ok (.iconst 1, 1) := by decide +kernel
theorem dX6_set_11 : decode cX6_set 11 = .ok (.goto 19, 3) := by decide +kernel
theorem dX6_set_14 : decode cX6_set 14 = .ok (.iload_n 3, 1) := by decide +kernel
theorem dX6_set_15 : decode cX6_set 15 = .ok (.bipush 97, 2) := by decide +kernel
theorem dX6_set_17 : decode cX6_set 17 = .ok (.bipush 102, 2) := by decide +kernel
theorem dX6_set_19 : decode cX6_set 19 = .ok (.invokestatic 72, 3) := by decide +kernel
theorem dX6_set_22 : decode cX6_set 22 = .ok (.ifCond .eq 7, 3) := by decide +kernel
theorem dX6_set_25 : decode cX6_set 25 = .ok (.iconst 0, 1) := by decide +kernel
theorem dX6_set_26 : decode cX6_set 26 = .ok (.goto 4, 3) := by decide +kernel
theorem dX6_set_29 : decode cX6_set 29 = .ok (.iconst 2, 1) := by decide +kernel
theorem dX6_set_30 : decode cX6_set 30 = .ok (.invokevirtual 86, 3) := by decide +kernel
theorem dX6_set_33 : decode cX6_set 33 = .ok (.ifCond .eq 5, 3) := by decide +kernel
theorem dX6_set_36 : decode cX6_set 36 = .ok (.iconst 0, 1) := by decide +kernel
theorem dX6_set_37 : decode cX6_set 37 = .ok (.ireturn, 1) := by decide +kernel
theorem dX6_set_38 : decode cX6_set 38 = .ok (.iload_n 3, 1) := by decide +kernel
theorem dX6_set_39 : decode cX6_set 39 = .ok (.bipush 97, 2) := by decide +kernel
theorem dX6_set_41 : decode cX6_set 41 = .ok (.isub, 1) := by decide +kernel
theorem dX6_set_42 : decode cX6_set 42 = .ok (.iconst 1, 1) := by decide +kernel
theorem dX6_set_43 : decode cX6_set 43 = .ok (.iadd, 1) := by decide +kernel
theorem dX6_set_44 : decode cX6_set 44 = .ok (.istore 4, 2) := by decide +kernel
theorem dX6_set_46 : decode cX6_set 46 = .ok (.aload_n 0, 1) := by decide +kernel
theorem dX6_set_47 : decode cX6_set 47 = .ok (.iload_n 1, 1) := by decide +kernel
theorem dX6_set_48 : decode cX6_set 48 = .ok (.bipush 10, 2) := by decide +kernel
theorem dX6_set_50 : decode cX6_set 50 = .ok (.iload_n 2, 1) := by decide +kernel
theorem dX6_set_51 : decode cX6_set 51 = .ok (.iadd, 1) := by decide +kernel
theorem dX6_set_52 : decode cX6_set 52 = .ok (.invokevirtual 80, 3) := by decide +kernel
theorem dX6_set_55 : decode cX6_set 55 = .ok (.iload 4, 2) := by decide +kernel
theorem dX6_set_57 : decode cX6_set 57 = .ok (.if_icmp .ne 11, 3) := by decide +kernel
theorem dX6_set_60 : decode cX6_set 60 = .ok (.aload_n 0, 1) := by decide +kernel
theorem dX6_set_61 : decode cX6_set 61 = .ok (.iconst 3, 1) := by decide +kernel
theorem dX6_set_62 : decode cX6_set 62 = .ok (.iconst 2, 1) := by decide +kernel
theorem dX6_set_63 : decode cX6_set 63 = .ok (.iload_n 2, 1) := by decide +kernel
theorem dX6_set_64 : decode cX6_set 64 = .ok (.invokevirtual 89, 3) := by decide +kernel
theorem dX6_set_67 : decode cX6_set 67 = .ok (.ireturn, 1) := by decide +kernel
theorem dX6_set_68 : decode cX6_set 68 = .ok (.aload_n 0, 1) := by decide +kernel
theorem dX6_set_69 : decode cX6_set 69 = .ok (.iload_n 1, 1) := by decide +kernel
theorem dX6_set_70 : decode cX6_set 70 = .ok (.iconst 2, 1) := by decide +kernel
theorem dX6_set_71 : decode cX6_set 71 = .ok (.iload_n 2, 1) := by decide +kernel
theorem dX6_set_72 : decode cX6_set 72 = .ok (.iadd, 1) := by decide +kernel
theorem dX6_set_73 : decode cX6_set 73 = .ok (.invokevirtual 80, 3) := by decide +kernel
theorem dX6_set_76 : decode cX6_set 76 = .ok (.iload 4, 2) := by decide +kernel
theorem dX6_set_78 : decode cX6_set 78 = .ok (.if_icmp .ne 11, 3) := by decide +kernel
theorem dX6_set_81 : decode cX6_set 81 = .ok (.aload_n 0, 1) := by decide +kernel
theorem dX6_set_82 : decode cX6_set 82 = .ok (.iconst 3, 1) := by decide +kernel
theorem dX6_set_83 : decode cX6_set 83 = .ok (.iconst 3, 1) := by decide +kernel
theorem dX6_set_84 : decode cX6_set 84 = .ok (.iload_n 2, 1) := by decide +kernel
theorem dX6_set_85 : decode cX6_set 85 = .ok (.invokevirtual 89, 3) := by decide +kernel
theorem dX6_set_88 : decode cX6_set 88 = .ok (.ireturn, 1) := by decide +kernel
theorem dX6_set_89 : decode cX6_set 89 = .ok (.aload_n 0, 1) := by decide +kernel
theorem dX6_set_90 : decode cX6_set 90 = .ok (.aload_n 0, 1) := by decide +kernel
theorem dX6_set_91 : decode cX6_set 91 = .ok (.getfield 7, 3) := by decide +kernel
theorem dX6_set_94 : decode cX6_set 94 = .ok (.invokevirtual 93, 3) := by decide +kernel
theorem dX6_set_97 : decode cX6_set 97 = .ok (.aload_n 0, 1) := by decide +kernel
theorem dX6_set_98 : decode cX6_set 98 = .ok (.iload_n 1, 1) := by decide +kernel
theorem dX6_set_99 : decode cX6_set 99 = .ok (.bipush 10, 2) := by decide +kernel
theorem dX6_set_101 : decode cX6_set 101 = .ok (.iload_n 2, 1) := by decide +kernel
theorem dX6_set_102 : decode cX6_set 102 = .ok (.iadd, 1) := by decide +kernel
theorem dX6_set_103 : decode cX6_set 103 = .ok (.iload 4, 2) := by decide +kernel
theorem dX6_set_105 : decode cX6_set 105 = .ok (.invokevirtual 108, 3) := by decide +kernel
theorem dX6_set_108 : decode cX6_set 108 = .ok (.aload_n 0, 1) := by decide +kernel
theorem dX6_set_109 : decode cX6_set 109 = .ok (.iload_n 1, 1) := by decide +kernel
theorem dX6_set_110 : decode cX6_set 110 = .ok (.bipush 18, 2) := by decide +kernel
theorem dX6_set_112 : decode cX6_set 112 = .ok (.iload_n 2, 1) := by decide +kernel
theorem dX6_set_113 : decode cX6_set 113 = .ok (.iadd, 1) := by decide +kernel
theorem dX6_set_114 : decode cX6_set 114 = .ok (.iconst 1, 1) := by decide +kernel
theorem dX6_set_115 : decode cX6_set 115 = .ok (.invokevirtual 108, 3) := by decide +kernel
theorem dX6_set_118 : decode cX6_set 118 = .ok (.aload_n 0, 1) := by decide +kernel
theorem dX6_set_119 : decode cX6_set 119 = .ok (.iload_n 1, 1) := by decide +kernel
theorem dX6_set_120 : decode cX6_set 120 = .ok (.iconst 1, 1) := by decide +kernel
theorem dX6_set_121 : decode cX6_set 121 = .ok (.invokevirtual 118, 3) := by decide +kernel
theorem dX6_set_124 : decode cX6_set 124 = .ok (.ireturn, 1) := by decide +kernel
theorem dX6_ofHouse_0 : decode cX6_ofHouse 0 = .ok (.iconst 0, 1) := by decide +kernel
theorem dX6_ofHouse_1 : decode cX6_ofHouse 1 = .ok (.istore_n 3, 1) := by decide +kernel
theorem dX6_ofHouse_2 : decode cX6_ofHouse 2 = .ok (.iconst 0, 1) := by decide +kernel
theorem dX6_ofHouse_3 : decode cX6_ofHouse 3 = .ok (.istore 4, 2) := by decide +kernel
theorem dX6_ofHouse_5 : decode cX6_ofHouse 5 = .ok (.iload 4, 2) := by decide +kernel
theorem dX6_ofHouse_7 : decode cX6_ofHouse 7 = .ok (.aload_n 0, 1) := by decide +kernel
theorem dX6_ofHouse_8 : decode cX6_ofHouse 8 = .ok (.getfield 7, 3) := by decide +kernel
theorem dX6_ofHouse_11 : decode cX6_ofHouse 11 = .ok (.iconst 1, 1) := by decide +kernel
theorem dX6_ofHouse_12 : decode cX6_ofHouse 12 = .ok (.iaload, 1) := by decide +kernel
theorem dX6_ofHouse_13 : decode cX6_ofHouse 13 = .ok (.if_icmp .ge 34, 3) := by decide +kernel
theorem dX6_ofHouse_16 : decode cX6_ofHouse 16 = .ok (.iload_n 3, 1) := by decide +kernel
theorem dX6_ofHouse_17 : decode cX6_ofHouse 17 = .ok (.aload_n 0, 1) := by decide +kernel
theorem dX6_ofHouse_18 : decode cX6_ofHouse 18 = .ok (.iload 4, 2) := by decide +kernel
theorem dX6_ofHouse_20 : decode cX6_ofHouse 20 = .ok (.iconst 0, 1) := by decide +kernel
theorem dX6_ofHouse_21 : decode cX6_ofHouse 21 = .ok (.invokevirtual 80, 3) := by decide +kernel
theorem dX6_ofHouse_24 : decode cX6_ofHouse 24 = .ok (.iload_n 1, 1) := by decide +kernel
theorem dX6_ofHouse_25 : decode cX6_ofHouse 25 = .ok (.if_icmp .ne 13, 3) := by decide +kernel
theorem dX6_ofHouse_28 : decode cX6_ofHouse 28 = .ok (.aload_n 0, 1) := by decide +kernel
theorem dX6_ofHouse_29 : decode cX6_ofHouse 29 = .ok (.iload 4, 2) := by decide +kernel
theorem dX6_ofHouse_31 : decode cX6_ofHouse 31 = .ok (.iload_n 2, 1) := by decide +kernel
theorem dX6_ofHouse_32 : decode cX6_ofHouse 32 = .ok (.invokevirtual 118, 3) := by decide +kernel
theorem dX6_ofHouse_35 : decode cX6_ofHouse 35 = .ok (.goto 4, 3) := by decide +kernel
theorem dX6_ofHouse_38 : decode cX6_ofHouse 38 = .ok (.iconst 0, 1) := by decide +kernel
theorem dX6_ofHouse_39 : decode cX6_ofHouse 39 = .ok (.iadd, 1) := by decide +kernel
theorem dX6_ofHouse_40 : decode cX6_ofHouse 40 = .ok (.istore_n 3, 1) := by decide +kernel
theorem dX6_ofHouse_41 : decode cX6_ofHouse 41 = .ok (.iinc 4 1, 3) := by decide +kernel
theorem dX6_ofHouse_44 : decode cX6_ofHouse 44 = .ok (.goto (-39), 3) := by decide +kernel
theorem dX6_ofHouse_47 : decode cX6_ofHouse 47 = .ok (.iload_n 3, 1) := by decide +kernel
theorem dX6_ofHouse_48 : decode cX6_ofHouse 48 = .ok (.ireturn, 1) := by decide +kernel
theorem dX6_price_0 : decode cX6_price 0 = .ok (.iconst 2, 1) := by decide +kernel
theorem dX6_price_1 : decode cX6_price 1 = .ok (.aload_n 0, 1) := by decide +kernel
theorem dX6_price_2 : decode cX6_price 2 = .ok (.iload_n 1, 1) := by decide +kernel
theorem dX6_price_3 : decode cX6_price 3 = .ok (.iconst 2, 1) := by decide +kernel
theorem dX6_price_4 : decode cX6_price 4 = .ok (.invokevirtual 121, 3) := by decide +kernel
theorem dX6_price_7 : decode cX6_price 7 = .ok (.iadd, 1) := by decide +kernel
theorem dX6_price_8 : decode cX6_price 8 = .ok (.ireturn, 1) := by decide +kernel
theorem dX6_isAshamed_0 : decode cX6_isAshamed 0 = .ok (.aload_n 0, 1) := by decide +kernel
theorem dX6_isAshamed_1 : decode cX6_isAshamed 1 = .ok (.iload_n 1, 1) := by decide +kernel
theorem dX6_isAshamed_2 : decode cX6_isAshamed 2 = .ok (.iconst 1, 1) := by decide +kernel
theorem dX6_isAshamed_3 : decode cX6_isAshamed 3 = .ok (.invokevirtual 65, 3) := by decide +kernel
theorem dX6_isAshamed_6 : decode cX6_isAshamed 6 = .ok (.bipush 20, 2) := by decide +kernel
theorem dX6_isAshamed_8 : decode cX6_isAshamed 8 = .ok (.if_icmp .le 7, 3) := by decide +kernel
theorem dX6_isAshamed_11 : decode cX6_isAshamed 11 = .ok (.iconst 1, 1) := by decide +kernel
theorem dX6_isAshamed_12 : decode cX6_isAshamed 12 = .ok (.goto 4, 3) := by decide +kernel
theorem dX6_isAshamed_15 : decode cX6_isAshamed 15 = .ok (.iconst 0, 1) := by decide +kernel
theorem dX6_isAshamed_16 : decode cX6_isAshamed 16 = .ok (.ireturn, 1) := by decide +kernel
theorem dX6_license_0 : decode cX6_license 0 = .ok (.aload_n 0, 1) := by decide +kernel
theorem dX6_license_1 : decode cX6_license 1 = .ok (.aload_n 0, 1) := by decide +kernel
theorem dX6_license_2 : decode cX6_license 2 = .ok (.iload_n 1, 1) := by decide +kernel
theorem dX6_license_3 : decode cX6_license 3 = .ok (.iload_n 2, 1) := by decide +kernel
theorem dX6_license_4 : decode cX6_license 4 = .ok (.invokevirtual 114, 3) := by decide +kernel
theorem dX6_license_7 : decode cX6_license 7 = .ok (.ifCond .eq 7, 3) := by decide +kernel
theorem dX6_license_10 : decode cX6_license 10 = .ok (.iconst 0, 1) := by decide +kernel
theorem dX6_license_11 : decode cX6_license 11 = .ok (.goto 4, 3) := by decide +kernel
theorem dX6_license_14 : decode cX6_license 14 = .ok (.iconst 1, 1) := by decide +kernel
theorem dX6_license_15 : decode cX6_license 15 = .ok (.invokevirtual 86, 3) := by decide +kernel
theorem dX6_license_18 : decode cX6_license 18 = .ok (.ifCond .eq 5, 3) := by decide +kernel
theorem dX6_license_21 : decode cX6_license 21 = .ok (.iconst 0, 1) := by decide +kernel
theorem dX6_license_22 : decode cX6_license 22 = .ok (.ireturn, 1) := by decide +kernel
theorem dX6_license_23 : decode cX6_license 23 = .ok (.aload_n 0, 1) := by decide +kernel
theorem dX6_license_24 : decode cX6_license 24 = .ok (.iload_n 1, 1) := by decide +kernel
theorem dX6_license_25 : decode cX6_license 25 = .ok (.iconst 0, 1) := by decide +kernel
theorem dX6_license_26 : decode cX6_license 26 = .ok (.invokevirtual 80, 3) := by decide +kernel
theorem dX6_license_29 : decode cX6_license 29 = .ok (.istore_n 3, 1) := by decide +kernel
theorem dX6_license_30 : decode cX6_license 30 = .ok (.aload_n 0, 1) := by decide +kernel
theorem dX6_license_31 : decode cX6_license 31 = .ok (.iload_n 1, 1) := by decide +kernel
theorem dX6_license_32 : decode cX6_license 32 = .ok (.iload_n 2, 1) := by decide +kernel
theorem dX6_license_33 : decode cX6_license 33 = .ok (.invokevirtual 111, 3) := by decide +kernel
theorem dX6_license_36 : decode cX6_license 36 = .ok (.ifCond .ne 11, 3) := by decide +kernel
theorem dX6_license_39 : decode cX6_license 39 = .ok (.aload_n 0, 1) := by decide +kernel
theorem dX6_license_40 : decode cX6_license 40 = .ok (.iconst 2, 1) := by decide +kernel
theorem dX6_license_41 : decode cX6_license 41 = .ok (.iconst 4, 1) := by decide +kernel
theorem dX6_license_42 : decode cX6_license 42 = .ok (.iload_n 2, 1) := by decide +kernel
theorem dX6_license_43 : decode cX6_license 43 = .ok (.invokevirtual 89, 3) := by decide +kernel
theorem dX6_license_46 : decode cX6_license 46 = .ok (.ireturn, 1) := by decide +kernel
theorem dX6_license_47 : decode cX6_license 47 = .ok (.aload_n 0, 1) := by decide +kernel
theorem dX6_license_48 : decode cX6_license 48 = .ok (.iload_n 1, 1) := by decide +kernel
theorem dX6_license_49 : decode cX6_license 49 = .ok (.iload_n 2, 1) := by decide +kernel
theorem dX6_license_50 : decode cX6_license 50 = .ok (.invokevirtual 111, 3) := by decide +kernel
theorem dX6_license_53 : decode cX6_license 53 = .ok (.iconst 1, 1) := by decide +kernel
theorem dX6_license_54 : decode cX6_license 54 = .ok (.if_icmp .le 11, 3) := by decide +kernel
theorem dX6_license_57 : decode cX6_license 57 = .ok (.aload_n 0, 1) := by decide +kernel
theorem dX6_license_58 : decode cX6_license 58 = .ok (.iconst 2, 1) := by decide +kernel
theorem dX6_license_59 : decode cX6_license 59 = .ok (.iconst 5, 1) := by decide +kernel
theorem dX6_license_60 : decode cX6_license 60 = .ok (.iload_n 2, 1) := by decide +kernel
theorem dX6_license_61 : decode cX6_license 61 = .ok (.invokevirtual 89, 3) := by decide +kernel
theorem dX6_license_64 : decode cX6_license 64 = .ok (.ireturn, 1) := by decide +kernel
theorem dX6_license_65 : decode cX6_license 65 = .ok (.aload_n 0, 1) := by decide +kernel
theorem dX6_license_66 : decode cX6_license 66 = .ok (.iload_n 3, 1) := by decide +kernel
theorem dX6_license_67 : decode cX6_license 67 = .ok (.invokevirtual 124, 3) := by decide +kernel
theorem dX6_license_70 : decode cX6_license 70 = .ok (.ifCond .eq 17, 3) := by decide +kernel
theorem dX6_license_73 : decode cX6_license 73 = .ok (.aload_n 0, 1) := by decide +kernel
theorem dX6_license_74 : decode cX6_license 74 = .ok (.iconst 2, 1) := by decide +kernel
theorem dX6_license_75 : decode cX6_license 75 = .ok (.bipush 6, 2) := by decide +kernel
theorem dX6_license_77 : decode cX6_license 77 = .ok (.aload_n 0, 1) := by decide +kernel
theorem dX6_license_78 : decode cX6_license 78 = .ok (.iload_n 3, 1) := by decide +kernel
theorem dX6_license_79 : decode cX6_license 79 = .ok (.iconst 1, 1) := by decide +kernel
theorem dX6_license_80 : decode cX6_license 80 = .ok (.invokevirtual 65, 3) := by decide +kernel
theorem dX6_license_83 : decode cX6_license 83 = .ok (.invokevirtual 89, 3) := by decide +kernel
theorem dX6_license_86 : decode cX6_license 86 = .ok (.ireturn, 1) := by decide +kernel
theorem dX6_license_87 : decode cX6_license 87 = .ok (.aload_n 0, 1) := by decide +kernel
theorem dX6_license_88 : decode cX6_license 88 = .ok (.iload_n 3, 1) := by decide +kernel
theorem dX6_license_89 : decode cX6_license 89 = .ok (.invokevirtual 127, 3) := by decide +kernel
theorem dX6_license_92 : decode cX6_license 92 = .ok (.istore 4, 2) := by decide +kernel
theorem dX6_license_94 : decode cX6_license 94 = .ok (.aload_n 0, 1) := by decide +kernel
theorem dX6_license_95 : decode cX6_license 95 = .ok (.iload_n 3, 1) := by decide +kernel
theorem dX6_license_96 : decode cX6_license 96 = .ok (.iconst 0, 1) := by decide +kernel
theorem dX6_license_97 : decode cX6_license 97 = .ok (.invokevirtual 65, 3) := by decide +kernel
theorem dX6_license_100 : decode cX6_license 100 = .ok (.iload 4, 2) := by decide +kernel
theorem dX6_license_102 : decode cX6_license 102 = .ok (.if_icmp .ge 17, 3) := by decide +kernel
theorem dX6_license_105 : decode cX6_license 105 = .ok (.aload_n 0, 1) := by decide +kernel
theorem dX6_license_106 : decode cX6_license 106 = .ok (.iconst 2, 1) := by decide +kernel
theorem dX6_license_107 : decode cX6_license 107 = .ok (.bipush 7, 2) := by decide +kernel
theorem dX6_license_109 : decode cX6_license 109 = .ok (.aload_n 0, 1) := by decide +kernel
theorem dX6_license_110 : decode cX6_license 110 = .ok (.iload_n 3, 1) := by decide +kernel
theorem dX6_license_111 : decode cX6_license 111 = .ok (.iconst 0, 1) := by decide +kernel
theorem dX6_license_112 : decode cX6_license 112 = .ok (.invokevirtual 65, 3) := by decide +kernel
theorem dX6_license_115 : decode cX6_license 115 = .ok (.invokevirtual 89, 3) := by decide +kernel
theorem dX6_license_118 : decode cX6_license 118 = .ok (.ireturn, 1) := by decide +kernel
theorem dX6_license_119 : decode cX6_license 119 = .ok (.aload_n 0, 1) := by decide +kernel
theorem dX6_license_120 : decode cX6_license 120 = .ok (.aload_n 0, 1) := by decide +kernel
theorem dX6_license_121 : decode cX6_license 121 = .ok (.getfield 7, 3) := by decide +kernel
theorem dX6_license_124 : decode cX6_license 124 = .ok (.invokevirtual 93, 3) := by decide +kernel
theorem dX6_license_127 : decode cX6_license 127 = .ok (.aload_n 0, 1) := by decide +kernel
theorem dX6_license_128 : decode cX6_license 128 = .ok (.iload_n 3, 1) := by decide +kernel
theorem dX6_license_129 : decode cX6_license 129 = .ok (.iconst 0, 1) := by decide +kernel
theorem dX6_license_130 : decode cX6_license 130 = .ok (.iload 4, 2) := by decide +kernel
theorem dX6_license_132 : decode cX6_license 132 = .ok (.ineg, 1) := by decide +kernel
theorem dX6_license_133 : decode cX6_license 133 = .ok (.invokevirtual 97, 3) := by decide +kernel
theorem dX6_license_136 : decode cX6_license 136 = .ok (.aload_n 0, 1) := by decide +kernel
theorem dX6_license_137 : decode cX6_license 137 = .ok (.getfield 7, 3) := by decide +kernel
theorem dX6_license_140 : decode cX6_license 140 = .ok (.bipush 7, 2) := by decide +kernel
theorem dX6_license_142 : decode cX6_license 142 = .ok (.dup2, 1) := by decide +kernel
theorem dX6_license_143 : decode cX6_license 143 = .ok (.iaload, 1) := by decide +kernel
theorem dX6_license_144 : decode cX6_license 144 = .ok (.iload 4, 2) := by decide +kernel
theorem dX6_license_146 : decode cX6_license 146 = .ok (.iadd, 1) := by decide +kernel
theorem dX6_license_147 : decode cX6_license 147 = .ok (.iastore, 1) := by decide +kernel
theorem dX6_license_148 : decode cX6_license 148 = .ok (.aload_n 0, 1) := by decide +kernel
theorem dX6_license_149 : decode cX6_license 149 = .ok (.iload_n 1, 1) := by decide +kernel
theorem dX6_license_150 : decode cX6_license 150 = .ok (.bipush 18, 2) := by decide +kernel
theorem dX6_license_152 : decode cX6_license 152 = .ok (.iload_n 2, 1) := by decide +kernel
theorem dX6_license_153 : decode cX6_license 153 = .ok (.iadd, 1) := by decide +kernel
theorem dX6_license_154 : decode cX6_license 154 = .ok (.iconst 2, 1) := by decide +kernel
theorem dX6_license_155 : decode cX6_license 155 = .ok (.invokevirtual 108, 3) := by decide +kernel
theorem dX6_license_158 : decode cX6_license 158 = .ok (.iload 4, 2) := by decide +kernel
theorem dX6_license_160 : decode cX6_license 160 = .ok (.ireturn, 1) := by decide +kernel
theorem dX6_fineAt_0 : decode cX6_fineAt 0 = .ok (.aload_n 0, 1) := by decide +kernel
theorem dX6_fineAt_1 : decode cX6_fineAt 1 = .ok (.iload_n 1, 1) := by decide +kernel
theorem dX6_fineAt_2 : decode cX6_fineAt 2 = .ok (.iload_n 2, 1) := by decide +kernel
theorem dX6_fineAt_3 : decode cX6_fineAt 3 = .ok (.invokevirtual 111, 3) := by decide +kernel
theorem dX6_fineAt_6 : decode cX6_fineAt 6 = .ok (.istore_n 3, 1) := by decide +kernel
theorem dX6_fineAt_7 : decode cX6_fineAt 7 = .ok (.iload_n 3, 1) := by decide +kernel
theorem dX6_fineAt_8 : decode cX6_fineAt 8 = .ok (.ifCond .ne 7, 3) := by decide +kernel
theorem dX6_fineAt_11 : decode cX6_fineAt 11 = .ok (.iconst 0, 1) := by decide +kernel
theorem dX6_fineAt_12 : decode cX6_fineAt 12 = .ok (.goto 33, 3) := by decide +kernel
theorem dX6_fineAt_15 : decode cX6_fineAt 15 = .ok (.iconst 1, 1) := by decide +kernel
theorem dX6_fineAt_16 : decode cX6_fineAt 16 = .ok (.aload_n 0, 1) := by decide +kernel
theorem dX6_fineAt_17 : decode cX6_fineAt 17 = .ok (.iload_n 1, 1) := by decide +kernel
theorem dX6_fineAt_18 : decode cX6_fineAt 18 = .ok (.iload_n 2, 1) := by decide +kernel
theorem dX6_fineAt_19 : decode cX6_fineAt 19 = .ok (.invokevirtual 130, 3) := by decide +kernel
theorem dX6_fineAt_22 : decode cX6_fineAt 22 = .ok (.iadd, 1) := by decide +kernel
theorem dX6_fineAt_23 : decode cX6_fineAt 23 = .ok (.iload_n 3, 1) := by decide +kernel
theorem dX6_fineAt_24 : decode cX6_fineAt 24 = .ok (.iconst 1, 1) := by decide +kernel
theorem dX6_fineAt_25 : decode cX6_fineAt 25 = .ok (.if_icmp .le 7, 3) := by decide +kernel
theorem dX6_fineAt_28 : decode cX6_fineAt 28 = .ok (.iconst 2, 1) := by decide +kernel
theorem dX6_fineAt_29 : decode cX6_fineAt 29 = .ok (.goto 4, 3) := by decide +kernel
theorem dX6_fineAt_32 : decode cX6_fineAt 32 = .ok (.iconst 0, 1) := by decide +kernel
theorem dX6_fineAt_33 : decode cX6_fineAt 33 = .ok (.iadd, 1) := by decide +kernel
theorem dX6_fineAt_34 : decode cX6_fineAt 34 = .ok (.iload_n 3, 1) := by decide +kernel
theorem dX6_fineAt_35 : decode cX6_fineAt 35 = .ok (.iconst 3, 1) := by decide +kernel
theorem dX6_fineAt_36 : decode cX6_fineAt 36 = .ok (.if_icmp .ne 7, 3) := by decide +kernel
theorem dX6_fineAt_39 : decode cX6_fineAt 39 = .ok (.iconst 2, 1) := by decide +kernel
theorem dX6_fineAt_40 : decode cX6_fineAt 40 = .ok (.goto 4, 3) := by decide +kernel
theorem dX6_fineAt_43 : decode cX6_fineAt 43 = .ok (.iconst 1, 1) := by decide +kernel
theorem dX6_fineAt_44 : decode cX6_fineAt 44 = .ok (.imul, 1) := by decide +kernel
theorem dX6_fineAt_45 : decode cX6_fineAt 45 = .ok (.ireturn, 1) := by decide +kernel
theorem dX6_correct_0 : decode cX6_correct 0 = .ok (.aload_n 0, 1) := by decide +kernel
theorem dX6_correct_1 : decode cX6_correct 1 = .ok (.aload_n 0, 1) := by decide +kernel
theorem dX6_correct_2 : decode cX6_correct 2 = .ok (.iload_n 1, 1) := by decide +kernel
theorem dX6_correct_3 : decode cX6_correct 3 = .ok (.iload_n 2, 1) := by decide +kernel
theorem dX6_correct_4 : decode cX6_correct 4 = .ok (.invokevirtual 114, 3) := by decide +kernel
theorem dX6_correct_7 : decode cX6_correct 7 = .ok (.ifCond .eq 7, 3) := by decide +kernel
theorem dX6_correct_10 : decode cX6_correct 10 = .ok (.iconst 0, 1) := by decide +kernel
theorem dX6_correct_11 : decode cX6_correct 11 = .ok (.goto 4, 3) := by decide +kernel
theorem dX6_correct_14 : decode cX6_correct 14 = .ok (.iconst 1, 1) := by decide +kernel
theorem dX6_correct_15 : decode cX6_correct 15 = .ok (.invokevirtual 86, 3) := by decide +kernel
theorem dX6_correct_18 : decode cX6_correct 18 = .ok (.ifCond .eq 5, 3) := by decide +kernel
theorem dX6_correct_21 : decode cX6_correct 21 = .ok (.iconst 0, 1) := by decide +kernel
theorem dX6_correct_22 : decode cX6_correct 22 = .ok (.ireturn, 1) := by decide +kernel
theorem dX6_correct_23 : decode cX6_correct 23 = .ok (.aload_n 0, 1) := by decide +kernel
theorem dX6_correct_24 : decode cX6_correct 24 = .ok (.iload_n 1, 1) := by decide +kernel
theorem dX6_correct_25 : decode cX6_correct 25 = .ok (.iconst 0, 1) := by decide +kernel
theorem dX6_correct_26 : decode cX6_correct 26 = .ok (.invokevirtual 80, 3) := by decide +kernel
theorem dX6_correct_29 : decode cX6_correct 29 = .ok (.istore_n 3, 1) := by decide +kernel
theorem dX6_correct_30 : decode cX6_correct 30 = .ok (.aload_n 0, 1) := by decide +kernel
theorem dX6_correct_31 : decode cX6_correct 31 = .ok (.iload_n 1, 1) := by decide +kernel
theorem dX6_correct_32 : decode cX6_correct 32 = .ok (.iload_n 2, 1) := by decide +kernel
theorem dX6_correct_33 : decode cX6_correct 33 = .ok (.invokevirtual 133, 3) := by decide +kernel
theorem dX6_correct_36 : decode cX6_correct 36 = .ok (.istore 4, 2) := by decide +kernel
theorem dX6_correct_38 : decode cX6_correct 38 = .ok (.iload 4, 2) := by decide +kernel
theorem dX6_correct_40 : decode cX6_correct 40 = .ok (.ifCond .ne 11, 3) := by decide +kernel
theorem dX6_correct_43 : decode cX6_correct 43 = .ok (.aload_n 0, 1) := by decide +kernel
theorem dX6_correct_44 : decode cX6_correct 44 = .ok (.iconst 2, 1) := by decide +kernel
theorem dX6_correct_45 : decode cX6_correct 45 = .ok (.iconst 4, 1) := by decide +kernel
theorem dX6_correct_46 : decode cX6_correct 46 = .ok (.iload_n 2, 1) := by decide +kernel
theorem dX6_correct_47 : decode cX6_correct 47 = .ok (.invokevirtual 89, 3) := by decide +kernel
theorem dX6_correct_50 : decode cX6_correct 50 = .ok (.ireturn, 1) := by decide +kernel
theorem dX6_correct_51 : decode cX6_correct 51 = .ok (.aload_n 0, 1) := by decide +kernel
theorem dX6_correct_52 : decode cX6_correct 52 = .ok (.iload_n 3, 1) := by decide +kernel
theorem dX6_correct_53 : decode cX6_correct 53 = .ok (.iconst 0, 1) := by decide +kernel
theorem dX6_correct_54 : decode cX6_correct 54 = .ok (.invokevirtual 65, 3) := by decide +kernel
theorem dX6_correct_57 : decode cX6_correct 57 = .ok (.iload 4, 2) := by decide +kernel
theorem dX6_correct_59 : decode cX6_correct 59 = .ok (.if_icmp .ge 17, 3) := by decide +kernel
theorem dX6_correct_62 : decode cX6_correct 62 = .ok (.aload_n 0, 1) := by decide +kernel
theorem dX6_correct_63 : decode cX6_correct 63 = .ok (.iconst 2, 1) := by decide +kernel
theorem dX6_correct_64 : decode cX6_correct 64 = .ok (.bipush 7, 2) := by decide +kernel
theorem dX6_correct_66 : decode cX6_correct 66 = .ok (.aload_n 0, 1) := by decide +kernel
theorem dX6_correct_67 : decode cX6_correct 67 = .ok (.iload_n 3, 1) := by decide +kernel
theorem dX6_correct_68 : decode cX6_correct 68 = .ok (.iconst 0, 1) := by decide +kernel
theorem dX6_correct_69 : decode cX6_correct 69 = .ok (.invokevirtual 65, 3) := by decide +kernel
theorem dX6_correct_72 : decode cX6_correct 72 = .ok (.invokevirtual 89, 3) := by decide +kernel
theorem dX6_correct_75 : decode cX6_correct 75 = .ok (.ireturn, 1) := by decide +kernel
theorem dX6_correct_76 : decode cX6_correct 76 = .ok (.aload_n 0, 1) := by decide +kernel
theorem dX6_correct_77 : decode cX6_correct 77 = .ok (.aload_n 0, 1) := by decide +kernel
theorem dX6_correct_78 : decode cX6_correct 78 = .ok (.getfield 7, 3) := by decide +kernel
theorem dX6_correct_81 : decode cX6_correct 81 = .ok (.invokevirtual 93, 3) := by decide +kernel
theorem dX6_correct_84 : decode cX6_correct 84 = .ok (.aload_n 0, 1) := by decide +kernel
theorem dX6_correct_85 : decode cX6_correct 85 = .ok (.iload_n 3, 1) := by decide +kernel
theorem dX6_correct_86 : decode cX6_correct 86 = .ok (.iconst 0, 1) := by decide +kernel
theorem dX6_correct_87 : decode cX6_correct 87 = .ok (.iload 4, 2) := by decide +kernel
theorem dX6_correct_89 : decode cX6_correct 89 = .ok (.ineg, 1) := by decide +kernel
theorem dX6_correct_90 : decode cX6_correct 90 = .ok (.invokevirtual 97, 3) := by decide +kernel
theorem dX6_correct_93 : decode cX6_correct 93 = .ok (.aload_n 0, 1) := by decide +kernel
theorem dX6_correct_94 : decode cX6_correct 94 = .ok (.iload_n 3, 1) := by decide +kernel
theorem dX6_correct_95 : decode cX6_correct 95 = .ok (.iconst 2, 1) := by decide +kernel
theorem dX6_correct_96 : decode cX6_correct 96 = .ok (.iload 4, 2) := by decide +kernel
theorem dX6_correct_98 : decode cX6_correct 98 = .ok (.invokevirtual 97, 3) := by decide +kernel
theorem dX6_correct_101 : decode cX6_correct 101 = .ok (.aload_n 0, 1) := by decide +kernel
theorem dX6_correct_102 : decode cX6_correct 102 = .ok (.getfield 7, 3) := by decide +kernel
theorem dX6_correct_105 : decode cX6_correct 105 = .ok (.bipush 8, 2) := by decide +kernel
theorem dX6_correct_107 : decode cX6_correct 107 = .ok (.dup2, 1) := by decide +kernel
theorem dX6_correct_108 : decode cX6_correct 108 = .ok (.iaload, 1) := by decide +kernel
theorem dX6_correct_109 : decode cX6_correct 109 = .ok (.iload 4, 2) := by decide +kernel
theorem dX6_correct_111 : decode cX6_correct 111 = .ok (.iadd, 1) := by decide +kernel
theorem dX6_correct_112 : decode cX6_correct 112 = .ok (.iastore, 1) := by decide +kernel
theorem dX6_correct_113 : decode cX6_correct 113 = .ok (.aload_n 0, 1) := by decide +kernel
theorem dX6_correct_114 : decode cX6_correct 114 = .ok (.iload_n 1, 1) := by decide +kernel
theorem dX6_correct_115 : decode cX6_correct 115 = .ok (.bipush 10, 2) := by decide +kernel
theorem dX6_correct_117 : decode cX6_correct 117 = .ok (.iload_n 2, 1) := by decide +kernel
theorem dX6_correct_118 : decode cX6_correct 118 = .ok (.iadd, 1) := by decide +kernel
theorem dX6_correct_119 : decode cX6_correct 119 = .ok (.aload_n 0, 1) := by decide +kernel
theorem dX6_correct_120 : decode cX6_correct 120 = .ok (.iload_n 1, 1) := by decide +kernel
theorem dX6_correct_121 : decode cX6_correct 121 = .ok (.iconst 2, 1) := by decide +kernel
theorem dX6_correct_122 : decode cX6_correct 122 = .ok (.iload_n 2, 1) := by decide +kernel
theorem dX6_correct_123 : decode cX6_correct 123 = .ok (.iadd, 1) := by decide +kernel
theorem dX6_correct_124 : decode cX6_correct 124 = .ok (.invokevirtual 80, 3) := by decide +kernel
theorem dX6_correct_127 : decode cX6_correct 127 = .ok (.invokevirtual 108, 3) := by decide +kernel
theorem dX6_correct_130 : decode cX6_correct 130 = .ok (.aload_n 0, 1) := by decide +kernel
theorem dX6_correct_131 : decode cX6_correct 131 = .ok (.iload_n 1, 1) := by decide +kernel
theorem dX6_correct_132 : decode cX6_correct 132 = .ok (.bipush 18, 2) := by decide +kernel
theorem dX6_correct_134 : decode cX6_correct 134 = .ok (.iload_n 2, 1) := by decide +kernel
theorem dX6_correct_135 : decode cX6_correct 135 = .ok (.iadd, 1) := by decide +kernel
theorem dX6_correct_136 : decode cX6_correct 136 = .ok (.iconst 0, 1) := by decide +kernel
theorem dX6_correct_137 : decode cX6_correct 137 = .ok (.invokevirtual 108, 3) := by decide +kernel
theorem dX6_correct_140 : decode cX6_correct 140 = .ok (.iload 4, 2) := by decide +kernel
theorem dX6_correct_142 : decode cX6_correct 142 = .ok (.ireturn, 1) := by decide +kernel
theorem dX6_reader_0 : decode cX6_reader 0 = .ok (.aload_n 0, 1) := by decide +kernel
theorem dX6_reader_1 : decode cX6_reader 1 = .ok (.iload_n 1, 1) := by decide +kernel
theorem dX6_reader_2 : decode cX6_reader 2 = .ok (.iconst 0, 1) := by decide +kernel
theorem dX6_reader_3 : decode cX6_reader 3 = .ok (.iconst 1, 1) := by decide +kernel
theorem dX6_reader_4 : decode cX6_reader 4 = .ok (.invokestatic 72, 3) := by decide +kernel
theorem dX6_reader_7 : decode cX6_reader 7 = .ok (.ifCond .eq 17, 3) := by decide +kernel
theorem dX6_reader_10 : decode cX6_reader 10 = .ok (.iload_n 2, 1) := by decide +kernel
theorem dX6_reader_11 : decode cX6_reader 11 = .ok (.iconst 1, 1) := by decide +kernel
theorem dX6_reader_12 : decode cX6_reader 12 = .ok (.bipush 6, 2) := by decide +kernel
theorem dX6_reader_14 : decode cX6_reader 14 = .ok (.invokestatic 72, 3) := by decide +kernel
theorem dX6_reader_17 : decode cX6_reader 17 = .ok (.ifCond .eq 7, 3) := by decide +kernel
theorem dX6_reader_20 : decode cX6_reader 20 = .ok (.iconst 0, 1) := by decide +kernel
theorem dX6_reader_21 : decode cX6_reader 21 = .ok (.goto 4, 3) := by decide +kernel
theorem dX6_reader_24 : decode cX6_reader 24 = .ok (.iconst 1, 1) := by decide +kernel
theorem dX6_reader_25 : decode cX6_reader 25 = .ok (.invokevirtual 86, 3) := by decide +kernel
theorem dX6_reader_28 : decode cX6_reader 28 = .ok (.ifCond .eq 5, 3) := by decide +kernel
theorem dX6_reader_31 : decode cX6_reader 31 = .ok (.iconst 0, 1) := by decide +kernel
theorem dX6_reader_32 : decode cX6_reader 32 = .ok (.ireturn, 1) := by decide +kernel
theorem dX6_reader_33 : decode cX6_reader 33 = .ok (.aload_n 0, 1) := by decide +kernel
theorem dX6_reader_34 : decode cX6_reader 34 = .ok (.getfield 7, 3) := by decide +kernel
theorem dX6_reader_37 : decode cX6_reader 37 = .ok (.iconst 2, 1) := by decide +kernel
theorem dX6_reader_38 : decode cX6_reader 38 = .ok (.iaload, 1) := by decide +kernel
theorem dX6_reader_39 : decode cX6_reader 39 = .ok (.iconst 5, 1) := by decide +kernel
theorem dX6_reader_40 : decode cX6_reader 40 = .ok (.if_icmp .ne 11, 3) := by decide +kernel
theorem dX6_reader_43 : decode cX6_reader 43 = .ok (.aload_n 0, 1) := by decide +kernel
theorem dX6_reader_44 : decode cX6_reader 44 = .ok (.iconst 2, 1) := by decide +kernel
theorem dX6_reader_45 : decode cX6_reader 45 = .ok (.iconst 1, 1) := by decide +kernel
theorem dX6_reader_46 : decode cX6_reader 46 = .ok (.iconst 5, 1) := by decide +kernel
theorem dX6_reader_47 : decode cX6_reader 47 = .ok (.invokevirtual 89, 3) := by decide +kernel
theorem dX6_reader_50 : decode cX6_reader 50 = .ok (.ireturn, 1) := by decide +kernel
theorem dX6_reader_51 : decode cX6_reader 51 = .ok (.aload_n 0, 1) := by decide +kernel
theorem dX6_reader_52 : decode cX6_reader 52 = .ok (.aload_n 0, 1) := by decide +kernel
theorem dX6_reader_53 : decode cX6_reader 53 = .ok (.getfield 7, 3) := by decide +kernel
theorem dX6_reader_56 : decode cX6_reader 56 = .ok (.invokevirtual 93, 3) := by decide +kernel
theorem dX6_reader_59 : decode cX6_reader 59 = .ok (.aload_n 0, 1) := by decide +kernel
theorem dX6_reader_60 : decode cX6_reader 60 = .ok (.getfield 7, 3) := by decide +kernel
theorem dX6_reader_63 : decode cX6_reader 63 = .ok (.sipush 230, 3) := by decide +kernel
theorem dX6_reader_66 : decode cX6_reader 66 = .ok (.iconst 2, 1) := by decide +kernel
theorem dX6_reader_67 : decode cX6_reader 67 = .ok (.aload_n 0, 1) := by decide +kernel
theorem dX6_reader_68 : decode cX6_reader 68 = .ok (.getfield 7, 3) := by decide +kernel
theorem dX6_reader_71 : decode cX6_reader 71 = .ok (.iconst 2, 1) := by decide +kernel
theorem dX6_reader_72 : decode cX6_reader 72 = .ok (.iaload, 1) := by decide +kernel
theorem dX6_reader_73 : decode cX6_reader 73 = .ok (.imul, 1) := by decide +kernel
theorem dX6_reader_74 : decode cX6_reader 74 = .ok (.iadd, 1) := by decide +kernel
theorem dX6_reader_75 : decode cX6_reader 75 = .ok (.iload_n 1, 1) := by decide +kernel
theorem dX6_reader_76 : decode cX6_reader 76 = .ok (.iastore, 1) := by decide +kernel
theorem dX6_reader_77 : decode cX6_reader 77 = .ok (.aload_n 0, 1) := by decide +kernel
theorem dX6_reader_78 : decode cX6_reader 78 = .ok (.getfield 7, 3) := by decide +kernel
theorem dX6_reader_81 : decode cX6_reader 81 = .ok (.sipush 230, 3) := by decide +kernel
theorem dX6_reader_84 : decode cX6_reader 84 = .ok (.iconst 2, 1) := by decide +kernel
theorem dX6_reader_85 : decode cX6_reader 85 = .ok (.aload_n 0, 1) := by decide +kernel
theorem dX6_reader_86 : decode cX6_reader 86 = .ok (.getfield 7, 3) := by decide +kernel
theorem dX6_reader_89 : decode cX6_reader 89 = .ok (.iconst 2, 1) := by decide +kernel
theorem dX6_reader_90 : decode cX6_reader 90 = .ok (.iaload, 1) := by decide +kernel
theorem dX6_reader_91 : decode cX6_reader 91 = .ok (.imul, 1) := by decide +kernel
theorem dX6_reader_92 : decode cX6_reader 92 = .ok (.iadd, 1) := by decide +kernel
theorem dX6_reader_93 : decode cX6_reader 93 = .ok (.iconst 1, 1) := by decide +kernel
theorem dX6_reader_94 : decode cX6_reader 94 = .ok (.iadd, 1) := by decide +kernel
theorem dX6_reader_95 : decode cX6_reader 95 = .ok (.iload_n 2, 1) := by decide +kernel
theorem dX6_reader_96 : decode cX6_reader 96 = .ok (.iastore, 1) := by decide +kernel
theorem dX6_reader_97 : decode cX6_reader 97 = .ok (.aload_n 0, 1) := by decide +kernel
theorem dX6_reader_98 : decode cX6_reader 98 = .ok (.getfield 7, 3) := by decide +kernel
theorem dX6_reader_101 : decode cX6_reader 101 = .ok (.iconst 2, 1) := by decide +kernel
theorem dX6_reader_102 : decode cX6_reader 102 = .ok (.dup2, 1) := by decide +kernel
theorem dX6_reader_103 : decode cX6_reader 103 = .ok (.iaload, 1) := by decide +kernel
theorem dX6_reader_104 : decode cX6_reader 104 = .ok (.iconst 1, 1) := by decide +kernel
theorem dX6_reader_105 : decode cX6_reader 105 = .ok (.iadd, 1) := by decide +kernel
theorem dX6_reader_106 : decode cX6_reader 106 = .ok (.iastore, 1) := by decide +kernel
theorem dX6_reader_107 : decode cX6_reader 107 = .ok (.aload_n 0, 1) := by decide +kernel
theorem dX6_reader_108 : decode cX6_reader 108 = .ok (.getfield 7, 3) := by decide +kernel
theorem dX6_reader_111 : decode cX6_reader 111 = .ok (.iconst 2, 1) := by decide +kernel
theorem dX6_reader_112 : decode cX6_reader 112 = .ok (.iaload, 1) := by decide +kernel
theorem dX6_reader_113 : decode cX6_reader 113 = .ok (.iconst 1, 1) := by decide +kernel
theorem dX6_reader_114 : decode cX6_reader 114 = .ok (.isub, 1) := by decide +kernel
theorem dX6_reader_115 : decode cX6_reader 115 = .ok (.ireturn, 1) := by decide +kernel
theorem dX6_laughers_0 : decode cX6_laughers 0 = .ok (.iconst 0, 1) := by decide +kernel
theorem dX6_laughers_1 : decode cX6_laughers 1 = .ok (.istore_n 3, 1) := by decide +kernel
theorem dX6_laughers_2 : decode cX6_laughers 2 = .ok (.iconst 0, 1) := by decide +kernel
theorem dX6_laughers_3 : decode cX6_laughers 3 = .ok (.istore 4, 2) := by decide +kernel
theorem dX6_laughers_5 : decode cX6_laughers 5 = .ok (.iload 4, 2) := by decide +kernel
theorem dX6_laughers_7 : decode cX6_laughers 7 = .ok (.aload_n 0, 1) := by decide +kernel
theorem dX6_laughers_8 : decode cX6_laughers 8 = .ok (.getfield 7, 3) := by decide +kernel
theorem dX6_laughers_11 : decode cX6_laughers 11 = .ok (.iconst 2, 1) := by decide +kernel
theorem dX6_laughers_12 : decode cX6_laughers 12 = .ok (.iaload, 1) := by decide +kernel
theorem dX6_laughers_13 : decode cX6_laughers 13 = .ok (.if_icmp .ge 107, 3) := by decide +kernel
theorem dX6_laughers_16 : decode cX6_laughers 16 = .ok (.aload_n 0, 1) := by decide +kernel
theorem dX6_laughers_17 : decode cX6_laughers 17 = .ok (.iload_n 1, 1) := by decide +kernel
theorem dX6_laughers_18 : decode cX6_laughers 18 = .ok (.iload_n 2, 1) := by decide +kernel
theorem dX6_laughers_19 : decode cX6_laughers 19 = .ok (.invokevirtual 111, 3) := by decide +kernel
theorem dX6_laughers_22 : decode cX6_laughers 22 = .ok (.ifCond .le 98, 3) := by decide +kernel
theorem dX6_laughers_25 : decode cX6_laughers 25 = .ok (.aload_n 0, 1) := by decide +kernel
theorem dX6_laughers_26 : decode cX6_laughers 26 = .ok (.getfield 7, 3) := by decide +kernel
theorem dX6_laughers_29 : decode cX6_laughers 29 = .ok (.sipush 230, 3) := by decide +kernel
theorem dX6_laughers_32 : decode cX6_laughers 32 = .ok (.iconst 2, 1) := by decide +kernel
theorem dX6_laughers_33 : decode cX6_laughers 33 = .ok (.iload 4, 2) := by decide +kernel
theorem dX6_laughers_35 : decode cX6_laughers 35 = .ok (.imul, 1) := by decide +kernel
theorem dX6_laughers_36 : decode cX6_laughers 36 = .ok (.iadd, 1) := by decide +kernel
theorem dX6_laughers_37 : decode cX6_laughers 37 = .ok (.iconst 1, 1) := by decide +kernel
theorem dX6_laughers_38 : decode cX6_laughers 38 = .ok (.iadd, 1) := by decide +kernel
theorem dX6_laughers_39 : decode cX6_laughers 39 = .ok (.iaload, 1) := by decide +kernel
theorem dX6_laughers_40 : decode cX6_laughers 40 = .ok (.istore 5, 2) := by decide +kernel
theorem dX6_laughers_42 : decode cX6_laughers 42 = .ok (.aload_n 0, 1) := by decide +kernel
theorem dX6_laughers_43 : decode cX6_laughers 43 = .ok (.getfield 7, 3) := by decide +kernel
theorem dX6_laughers_46 : decode cX6_laughers 46 = .ok (.sipush 230, 3) := by decide +kernel
theorem dX6_laughers_49 : decode cX6_laughers 49 = .ok (.iconst 2, 1) := by decide +kernel
theorem dX6_laughers_50 : decode cX6_laughers 50 = .ok (.iload 4, 2) := by decide +kernel
theorem dX6_laughers_52 : decode cX6_laughers 52 = .ok (.imul, 1) := by decide +kernel
theorem dX6_laughers_53 : decode cX6_laughers 53 = .ok (.iadd, 1) := by decide +kernel
theorem dX6_laughers_54 : decode cX6_laughers 54 = .ok (.iaload, 1) := by decide +kernel
theorem dX6_laughers_55 : decode cX6_laughers 55 = .ok (.ifCond .ne 25, 3) := by decide +kernel
theorem dX6_laughers_58 : decode cX6_laughers 58 = .ok (.aload_n 0, 1) := by decide +kernel
theorem dX6_laughers_59 : decode cX6_laughers 59 = .ok (.iload_n 1, 1) := by decide +kernel
theorem dX6_laughers_60 : decode cX6_laughers 60 = .ok (.bipush 10, 2) := by decide +kernel
theorem dX6_laughers_62 : decode cX6_laughers 62 = .ok (.iload_n 2, 1) := by decide +kernel
theorem dX6_laughers_63 : decode cX6_laughers 63 = .ok (.iadd, 1) := by decide +kernel
theorem dX6_laughers_64 : decode cX6_laughers 64 = .ok (.invokevirtual 80, 3) := by decide +kernel
theorem dX6_laughers_67 : decode cX6_laughers 67 = .ok (.iload 5, 2) := by decide +kernel
theorem dX6_laughers_69 : decode cX6_laughers 69 = .ok (.if_icmp .ne 7, 3) := by decide +kernel
theorem dX6_laughers_72 : decode cX6_laughers 72 = .ok (.iconst 1, 1) := by decide +kernel
theorem dX6_laughers_73 : decode cX6_laughers 73 = .ok (.goto 23, 3) := by decide +kernel
theorem dX6_laughers_76 : decode cX6_laughers 76 = .ok (.iconst 0, 1) := by decide +kernel
theorem dX6_laughers_77 : decode cX6_laughers 77 = .ok (.goto 19, 3) := by decide +kernel
theorem dX6_laughers_80 : decode cX6_laughers 80 = .ok (.aload_n 0, 1) := by decide +kernel
theorem dX6_laughers_81 : decode cX6_laughers 81 = .ok (.iload_n 1, 1) := by decide +kernel
theorem dX6_laughers_82 : decode cX6_laughers 82 = .ok (.iload_n 2, 1) := by decide +kernel
theorem dX6_laughers_83 : decode cX6_laughers 83 = .ok (.invokevirtual 130, 3) := by decide +kernel
theorem dX6_laughers_86 : decode cX6_laughers 86 = .ok (.iload 5, 2) := by decide +kernel
theorem dX6_laughers_88 : decode cX6_laughers 88 = .ok (.if_icmp .lt 7, 3) := by decide +kernel
theorem dX6_laughers_91 : decode cX6_laughers 91 = .ok (.iconst 1, 1) := by decide +kernel
theorem dX6_laughers_92 : decode cX6_laughers 92 = .ok (.goto 4, 3) := by decide +kernel
theorem dX6_laughers_95 : decode cX6_laughers 95 = .ok (.iconst 0, 1) := by decide +kernel
theorem dX6_laughers_96 : decode cX6_laughers 96 = .ok (.istore 6, 2) := by decide +kernel
theorem dX6_laughers_98 : decode cX6_laughers 98 = .ok (.iload_n 3, 1) := by decide +kernel
theorem dX6_laughers_99 : decode cX6_laughers 99 = .ok (.iload 6, 2) := by decide +kernel
theorem dX6_laughers_101 : decode cX6_laughers 101 = .ok (.ifCond .eq 10, 3) := by decide +kernel
theorem dX6_laughers_104 : decode cX6_laughers 104 = .ok (.iconst 1, 1) := by decide +kernel
theorem dX6_laughers_105 : decode cX6_laughers 105 = .ok (.iload 4, 2) := by decide +kernel
theorem dX6_laughers_107 : decode cX6_laughers 107 = .ok (.ishl, 1) := by decide +kernel
theorem dX6_laughers_108 : decode cX6_laughers 108 = .ok (.goto 4, 3) := by decide +kernel
theorem dX6_laughers_111 : decode cX6_laughers 111 = .ok (.iconst 0, 1) := by decide +kernel
theorem dX6_laughers_112 : decode cX6_laughers 112 = .ok (.ior, 1) := by decide +kernel
theorem dX6_laughers_113 : decode cX6_laughers 113 = .ok (.istore_n 3, 1) := by decide +kernel
theorem dX6_laughers_114 : decode cX6_laughers 114 = .ok (.iinc 4 1, 3) := by decide +kernel
theorem dX6_laughers_117 : decode cX6_laughers 117 = .ok (.goto (-112), 3) := by decide +kernel
theorem dX6_laughers_120 : decode cX6_laughers 120 = .ok (.iload_n 3, 1) := by decide +kernel
theorem dX6_laughers_121 : decode cX6_laughers 121 = .ok (.ireturn, 1) := by decide +kernel
theorem dX6_laughs_0 : decode cX6_laughs 0 = .ok (.iconst 0, 1) := by decide +kernel
theorem dX6_laughs_1 : decode cX6_laughs 1 = .ok (.istore_n 3, 1) := by decide +kernel
theorem dX6_laughs_2 : decode cX6_laughs 2 = .ok (.iconst 0, 1) := by decide +kernel
theorem dX6_laughs_3 : decode cX6_laughs 3 = .ok (.istore 4, 2) := by decide +kernel
theorem dX6_laughs_5 : decode cX6_laughs 5 = .ok (.iload 4, 2) := by decide +kernel
theorem dX6_laughs_7 : decode cX6_laughs 7 = .ok (.iconst 5, 1) := by decide +kernel
theorem dX6_laughs_8 : decode cX6_laughs 8 = .ok (.if_icmp .ge 23, 3) := by decide +kernel
theorem dX6_laughs_11 : decode cX6_laughs 11 = .ok (.iload_n 3, 1) := by decide +kernel
theorem dX6_laughs_12 : decode cX6_laughs 12 = .ok (.aload_n 0, 1) := by decide +kernel
theorem dX6_laughs_13 : decode cX6_laughs 13 = .ok (.iload_n 1, 1) := by decide +kernel
theorem dX6_laughs_14 : decode cX6_laughs 14 = .ok (.iload_n 2, 1) := by decide +kernel
theorem dX6_laughs_15 : decode cX6_laughs 15 = .ok (.invokevirtual 136, 3) := by decide +kernel
theorem dX6_laughs_18 : decode cX6_laughs 18 = .ok (.iload 4, 2) := by decide +kernel
theorem dX6_laughs_20 : decode cX6_laughs 20 = .ok (.ishr, 1) := by decide +kernel
theorem dX6_laughs_21 : decode cX6_laughs 21 = .ok (.iconst 1, 1) := by decide +kernel
theorem dX6_laughs_22 : decode cX6_laughs 22 = .ok (.iand, 1) := by decide +kernel
theorem dX6_laughs_23 : decode cX6_laughs 23 = .ok (.iadd, 1) := by decide +kernel
theorem dX6_laughs_24 : decode cX6_laughs 24 = .ok (.istore_n 3, 1) := by decide +kernel
theorem dX6_laughs_25 : decode cX6_laughs 25 = .ok (.iinc 4 1, 3) := by decide +kernel
theorem dX6_laughs_28 : decode cX6_laughs 28 = .ok (.goto (-23), 3) := by decide +kernel
theorem dX6_laughs_31 : decode cX6_laughs 31 = .ok (.iload_n 3, 1) := by decide +kernel
theorem dX6_laughs_32 : decode cX6_laughs 32 = .ok (.ireturn, 1) := by decide +kernel
theorem dX6_printable_0 : decode cX6_printable 0 = .ok (.iconst 0, 1) := by decide +kernel
theorem dX6_printable_1 : decode cX6_printable 1 = .ok (.istore_n 1, 1) := by decide +kernel
theorem dX6_printable_2 : decode cX6_printable 2 = .ok (.iconst 0, 1) := by decide +kernel
theorem dX6_printable_3 : decode cX6_printable 3 = .ok (.istore_n 2, 1) := by decide +kernel
theorem dX6_printable_4 : decode cX6_printable 4 = .ok (.iload_n 2, 1) := by decide +kernel
theorem dX6_printable_5 : decode cX6_printable 5 = .ok (.aload_n 0, 1) := by decide +kernel
theorem dX6_printable_6 : decode cX6_printable 6 = .ok (.getfield 7, 3) := by decide +kernel
theorem dX6_printable_9 : decode cX6_printable 9 = .ok (.iconst 1, 1) := by decide +kernel
theorem dX6_printable_10 : decode cX6_printable 10 = .ok (.iaload, 1) := by decide +kernel
theorem dX6_printable_11 : decode cX6_printable 11 = .ok (.if_icmp .ge 25, 3) := by decide +kernel
theorem dX6_printable_14 : decode cX6_printable 14 = .ok (.iload_n 1, 1) := by decide +kernel
theorem dX6_printable_15 : decode cX6_printable 15 = .ok (.aload_n 0, 1) := by decide +kernel
theorem dX6_printable_16 : decode cX6_printable 16 = .ok (.iload_n 2, 1) := by decide +kernel
theorem dX6_printable_17 : decode cX6_printable 17 = .ok (.iconst 2, 1) := by decide +kernel
theorem dX6_printable_18 : decode cX6_printable 18 = .ok (.invokevirtual 118, 3) := by decide +kernel
theorem dX6_printable_21 : decode cX6_printable 21 = .ok (.aload_n 0, 1) := by decide +kernel
theorem dX6_printable_22 : decode cX6_printable 22 = .ok (.iload_n 2, 1) := by decide +kernel
theorem dX6_printable_23 : decode cX6_printable 23 = .ok (.iconst 3, 1) := by decide +kernel
theorem dX6_printable_24 : decode cX6_printable 24 = .ok (.invokevirtual 118, 3) := by decide +kernel
theorem dX6_printable_27 : decode cX6_printable 27 = .ok (.isub, 1) := by decide +kernel
theorem dX6_printable_28 : decode cX6_printable 28 = .ok (.iadd, 1) := by decide +kernel
theorem dX6_printable_29 : decode cX6_printable 29 = .ok (.istore_n 1, 1) := by decide +kernel
theorem dX6_printable_30 : decode cX6_printable 30 = .ok (.iinc 2 1, 3) := by decide +kernel
theorem dX6_printable_33 : decode cX6_printable 33 = .ok (.goto (-29), 3) := by decide +kernel
theorem dX6_printable_36 : decode cX6_printable 36 = .ok (.iload_n 1, 1) := by decide +kernel
theorem dX6_printable_37 : decode cX6_printable 37 = .ok (.ireturn, 1) := by decide +kernel
theorem dX6_edition_0 : decode cX6_edition 0 = .ok (.aload_n 0, 1) := by decide +kernel
theorem dX6_edition_1 : decode cX6_edition 1 = .ok (.invokevirtual 139, 3) := by decide +kernel
theorem dX6_edition_4 : decode cX6_edition 4 = .ok (.ifCond .ne 17, 3) := by decide +kernel
theorem dX6_edition_7 : decode cX6_edition 7 = .ok (.aload_n 0, 1) := by decide +kernel
theorem dX6_edition_8 : decode cX6_edition 8 = .ok (.iconst 1, 1) := by decide +kernel
theorem dX6_edition_9 : decode cX6_edition 9 = .ok (.bipush 8, 2) := by decide +kernel
theorem dX6_edition_11 : decode cX6_edition 11 = .ok (.aload_n 0, 1) := by decide +kernel
theorem dX6_edition_12 : decode cX6_edition 12 = .ok (.getfield 7, 3) := by decide +kernel
theorem dX6_edition_15 : decode cX6_edition 15 = .ok (.iconst 4, 1) := by decide +kernel
theorem dX6_edition_16 : decode cX6_edition 16 = .ok (.iaload, 1) := by decide +kernel
theorem dX6_edition_17 : decode cX6_edition 17 = .ok (.invokevirtual 89, 3) := by decide +kernel
theorem dX6_edition_20 : decode cX6_edition 20 = .ok (.ireturn, 1) := by decide +kernel
theorem dX6_edition_21 : decode cX6_edition 21 = .ok (.aload_n 0, 1) := by decide +kernel
theorem dX6_edition_22 : decode cX6_edition 22 = .ok (.aload_n 0, 1) := by decide +kernel
theorem dX6_edition_23 : decode cX6_edition 23 = .ok (.getfield 7, 3) := by decide +kernel
theorem dX6_edition_26 : decode cX6_edition 26 = .ok (.invokevirtual 93, 3) := by decide +kernel
theorem dX6_edition_29 : decode cX6_edition 29 = .ok (.iconst 0, 1) := by decide +kernel
theorem dX6_edition_30 : decode cX6_edition 30 = .ok (.istore_n 1, 1) := by decide +kernel
theorem dX6_edition_31 : decode cX6_edition 31 = .ok (.iconst 0, 1) := by decide +kernel
theorem dX6_edition_32 : decode cX6_edition 32 = .ok (.istore_n 2, 1) := by decide +kernel
theorem dX6_edition_33 : decode cX6_edition 33 = .ok (.iload_n 2, 1) := by decide +kernel
theorem dX6_edition_34 : decode cX6_edition 34 = .ok (.aload_n 0, 1) := by decide +kernel
theorem dX6_edition_35 : decode cX6_edition 35 = .ok (.getfield 7, 3) := by decide +kernel
theorem dX6_edition_38 : decode cX6_edition 38 = .ok (.iconst 1, 1) := by decide +kernel
theorem dX6_edition_39 : decode cX6_edition 39 = .ok (.iaload, 1) := by decide +kernel
theorem dX6_edition_40 : decode cX6_edition 40 = .ok (.if_icmp .ge 103, 3) := by decide +kernel
theorem dX6_edition_43 : decode cX6_edition 43 = .ok (.iconst 0, 1) := by decide +kernel
theorem dX6_edition_44 : decode cX6_edition 44 = .ok (.istore_n 3, 1) := by decide +kernel
theorem dX6_edition_45 : decode cX6_edition 45 = .ok (.iload_n 3, 1) := by decide +kernel
theorem dX6_edition_46 : decode cX6_edition 46 = .ok (.aload_n 0, 1) := by decide +kernel
theorem dX6_edition_47 : decode cX6_edition 47 = .ok (.iload_n 2, 1) := by decide +kernel
theorem dX6_edition_48 : decode cX6_edition 48 = .ok (.iconst 1, 1) := by decide +kernel
theorem dX6_edition_49 : decode cX6_edition 49 = .ok (.invokevirtual 80, 3) := by decide +kernel
theorem dX6_edition_52 : decode cX6_edition 52 = .ok (.if_icmp .ge 85, 3) := by decide +kernel
theorem dX6_edition_55 : decode cX6_edition 55 = .ok (.aload_n 0, 1) := by decide +kernel
theorem dX6_edition_56 : decode cX6_edition 56 = .ok (.iload_n 2, 1) := by decide +kernel
theorem dX6_edition_57 : decode cX6_edition 57 = .ok (.iload_n 3, 1) := by decide +kernel
theorem dX6_edition_58 : decode cX6_edition 58 = .ok (.invokevirtual 111, 3) := by decide +kernel
theorem dX6_edition_61 : decode cX6_edition 61 = .ok (.iconst 2, 1) := by decide +kernel
theorem dX6_edition_62 : decode cX6_edition 62 = .ok (.if_icmp .eq 6, 3) := by decide +kernel
theorem dX6_edition_65 : decode cX6_edition 65 = .ok (.goto 66, 3) := by decide +kernel
theorem dX6_edition_68 : decode cX6_edition 68 = .ok (.aload_n 0, 1) := by decide +kernel
theorem dX6_edition_69 : decode cX6_edition 69 = .ok (.aload_n 0, 1) := by decide +kernel
theorem dX6_edition_70 : decode cX6_edition 70 = .ok (.iload_n 2, 1) := by decide +kernel
theorem dX6_edition_71 : decode cX6_edition 71 = .ok (.iconst 0, 1) := by decide +kernel
theorem dX6_edition_72 : decode cX6_edition 72 = .ok (.invokevirtual 80, 3) := by decide +kernel
theorem dX6_edition_75 : decode cX6_edition 75 = .ok (.iconst 1, 1) := by decide +kernel
theorem dX6_edition_76 : decode cX6_edition 76 = .ok (.aload_n 0, 1) := by decide +kernel
theorem dX6_edition_77 : decode cX6_edition 77 = .ok (.iload_n 2, 1) := by decide +kernel
theorem dX6_edition_78 : decode cX6_edition 78 = .ok (.iload_n 3, 1) := by decide +kernel
theorem dX6_edition_79 : decode cX6_edition 79 = .ok (.invokevirtual 130, 3) := by decide +kernel
theorem dX6_edition_82 : decode cX6_edition 82 = .ok (.invokevirtual 143, 3) := by decide +kernel
theorem dX6_edition_85 : decode cX6_edition 85 = .ok (.aload_n 0, 1) := by decide +kernel
theorem dX6_edition_86 : decode cX6_edition 86 = .ok (.aload_n 0, 1) := by decide +kernel
theorem dX6_edition_87 : decode cX6_edition 87 = .ok (.iload_n 2, 1) := by decide +kernel
theorem dX6_edition_88 : decode cX6_edition 88 = .ok (.iconst 0, 1) := by decide +kernel
theorem dX6_edition_89 : decode cX6_edition 89 = .ok (.invokevirtual 80, 3) := by decide +kernel
theorem dX6_edition_92 : decode cX6_edition 92 = .ok (.iconst 0, 1) := by decide +kernel
theorem dX6_edition_93 : decode cX6_edition 93 = .ok (.aload_n 0, 1) := by decide +kernel
theorem dX6_edition_94 : decode cX6_edition 94 = .ok (.iload_n 2, 1) := by decide +kernel
theorem dX6_edition_95 : decode cX6_edition 95 = .ok (.iload_n 3, 1) := by decide +kernel
theorem dX6_edition_96 : decode cX6_edition 96 = .ok (.invokevirtual 146, 3) := by decide +kernel
theorem dX6_edition_99 : decode cX6_edition 99 = .ok (.invokevirtual 143, 3) := by decide +kernel
theorem dX6_edition_102 : decode cX6_edition 102 = .ok (.iload_n 1, 1) := by decide +kernel
theorem dX6_edition_103 : decode cX6_edition 103 = .ok (.aload_n 0, 1) := by decide +kernel
theorem dX6_edition_104 : decode cX6_edition 104 = .ok (.iload_n 2, 1) := by decide +kernel
theorem dX6_edition_105 : decode cX6_edition 105 = .ok (.iload_n 3, 1) := by decide +kernel
theorem dX6_edition_106 : decode cX6_edition 106 = .ok (.invokevirtual 146, 3) := by decide +kernel
theorem dX6_edition_109 : decode cX6_edition 109 = .ok (.iadd, 1) := by decide +kernel
theorem dX6_edition_110 : decode cX6_edition 110 = .ok (.istore_n 1, 1) := by decide +kernel
theorem dX6_edition_111 : decode cX6_edition 111 = .ok (.aload_n 0, 1) := by decide +kernel
theorem dX6_edition_112 : decode cX6_edition 112 = .ok (.iload_n 2, 1) := by decide +kernel
theorem dX6_edition_113 : decode cX6_edition 113 = .ok (.bipush 18, 2) := by decide +kernel
theorem dX6_edition_115 : decode cX6_edition 115 = .ok (.iload_n 3, 1) := by decide +kernel
theorem dX6_edition_116 : decode cX6_edition 116 = .ok (.iadd, 1) := by decide +kernel
theorem dX6_edition_117 : decode cX6_edition 117 = .ok (.iconst 3, 1) := by decide +kernel
theorem dX6_edition_118 : decode cX6_edition 118 = .ok (.invokevirtual 108, 3) := by decide +kernel
theorem dX6_edition_121 : decode cX6_edition 121 = .ok (.aload_n 0, 1) := by decide +kernel
theorem dX6_edition_122 : decode cX6_edition 122 = .ok (.getfield 7, 3) := by decide +kernel
theorem dX6_edition_125 : decode cX6_edition 125 = .ok (.iconst 5, 1) := by decide +kernel
theorem dX6_edition_126 : decode cX6_edition 126 = .ok (.dup2, 1) := by decide +kernel
theorem dX6_edition_127 : decode cX6_edition 127 = .ok (.iaload, 1) := by decide +kernel
theorem dX6_edition_128 : decode cX6_edition 128 = .ok (.iconst 1, 1) := by decide +kernel
theorem dX6_edition_129 : decode cX6_edition 129 = .ok (.iadd, 1) := by decide +kernel
theorem dX6_edition_130 : decode cX6_edition 130 = .ok (.iastore, 1) := by decide +kernel
theorem dX6_edition_131 : decode cX6_edition 131 = .ok (.iinc 3 1, 3) := by decide +kernel
theorem dX6_edition_134 : decode cX6_edition 134 = .ok (.goto (-89), 3) := by decide +kernel
theorem dX6_edition_137 : decode cX6_edition 137 = .ok (.iinc 2 1, 3) := by decide +kernel
theorem dX6_edition_140 : decode cX6_edition 140 = .ok (.goto (-107), 3) := by decide +kernel
theorem dX6_edition_143 : decode cX6_edition 143 = .ok (.aload_n 0, 1) := by decide +kernel
theorem dX6_edition_144 : decode cX6_edition 144 = .ok (.getfield 7, 3) := by decide +kernel
theorem dX6_edition_147 : decode cX6_edition 147 = .ok (.bipush 6, 2) := by decide +kernel
theorem dX6_edition_149 : decode cX6_edition 149 = .ok (.dup2, 1) := by decide +kernel
theorem dX6_edition_150 : decode cX6_edition 150 = .ok (.iaload, 1) := by decide +kernel
theorem dX6_edition_151 : decode cX6_edition 151 = .ok (.iload_n 1, 1) := by decide +kernel
theorem dX6_edition_152 : decode cX6_edition 152 = .ok (.iadd, 1) := by decide +kernel
theorem dX6_edition_153 : decode cX6_edition 153 = .ok (.iastore, 1) := by decide +kernel
theorem dX6_edition_154 : decode cX6_edition 154 = .ok (.aload_n 0, 1) := by decide +kernel
theorem dX6_edition_155 : decode cX6_edition 155 = .ok (.getfield 7, 3) := by decide +kernel
theorem dX6_edition_158 : decode cX6_edition 158 = .ok (.iconst 4, 1) := by decide +kernel
theorem dX6_edition_159 : decode cX6_edition 159 = .ok (.dup2, 1) := by decide +kernel
theorem dX6_edition_160 : decode cX6_edition 160 = .ok (.iaload, 1) := by decide +kernel
theorem dX6_edition_161 : decode cX6_edition 161 = .ok (.iconst 1, 1) := by decide +kernel
theorem dX6_edition_162 : decode cX6_edition 162 = .ok (.iadd, 1) := by decide +kernel
theorem dX6_edition_163 : decode cX6_edition 163 = .ok (.iastore, 1) := by decide +kernel
theorem dX6_edition_164 : decode cX6_edition 164 = .ok (.iload_n 1, 1) := by decide +kernel
theorem dX6_edition_165 : decode cX6_edition 165 = .ok (.ireturn, 1) := by decide +kernel
theorem dX6_day_0 : decode cX6_day 0 = .ok (.aload_n 0, 1) := by decide +kernel
theorem dX6_day_1 : decode cX6_day 1 = .ok (.aload_n 0, 1) := by decide +kernel
theorem dX6_day_2 : decode cX6_day 2 = .ok (.getfield 7, 3) := by decide +kernel
theorem dX6_day_5 : decode cX6_day 5 = .ok (.invokevirtual 93, 3) := by decide +kernel
theorem dX6_day_8 : decode cX6_day 8 = .ok (.iconst 0, 1) := by decide +kernel
theorem dX6_day_9 : decode cX6_day 9 = .ok (.istore_n 1, 1) := by decide +kernel
theorem dX6_day_10 : decode cX6_day 10 = .ok (.iconst 0, 1) := by decide +kernel
theorem dX6_day_11 : decode cX6_day 11 = .ok (.istore_n 2, 1) := by decide +kernel
theorem dX6_day_12 : decode cX6_day 12 = .ok (.iload_n 2, 1) := by decide +kernel
theorem dX6_day_13 : decode cX6_day 13 = .ok (.aload_n 0, 1) := by decide +kernel
theorem dX6_day_14 : decode cX6_day 14 = .ok (.getfield 7, 3) := by decide +kernel
theorem dX6_day_17 : decode cX6_day 17 = .ok (.iconst 0, 1) := by decide +kernel
theorem dX6_day_18 : decode cX6_day 18 = .ok (.iaload, 1) := by decide +kernel
theorem dX6_day_19 : decode cX6_day 19 = .ok (.if_icmp .ge 48, 3) := by decide +kernel
theorem dX6_day_22 : decode cX6_day 22 = .ok (.aload_n 0, 1) := by decide +kernel
theorem dX6_day_23 : decode cX6_day 23 = .ok (.iload_n 2, 1) := by decide +kernel
theorem dX6_day_24 : decode cX6_day 24 = .ok (.iconst 1, 1) := by decide +kernel
theorem dX6_day_25 : decode cX6_day 25 = .ok (.invokevirtual 65, 3) := by decide +kernel
theorem dX6_day_28 : decode cX6_day 28 = .ok (.ifCond .le 10, 3) := by decide +kernel
theorem dX6_day_31 : decode cX6_day 31 = .ok (.aload_n 0, 1) := by decide +kernel
theorem dX6_day_32 : decode cX6_day 32 = .ok (.iload_n 2, 1) := by decide +kernel
theorem dX6_day_33 : decode cX6_day 33 = .ok (.iconst 1, 1) := by decide +kernel
theorem dX6_day_34 : decode cX6_day 34 = .ok (.iconst (-1), 1) := by decide +kernel
theorem dX6_day_35 : decode cX6_day 35 = .ok (.invokevirtual 97, 3) := by decide +kernel
theorem dX6_day_38 : decode cX6_day 38 = .ok (.aload_n 0, 1) := by decide +kernel
theorem dX6_day_39 : decode cX6_day 39 = .ok (.iload_n 2, 1) := by decide +kernel
theorem dX6_day_40 : decode cX6_day 40 = .ok (.iconst 0, 1) := by decide +kernel
theorem dX6_day_41 : decode cX6_day 41 = .ok (.iconst 1, 1) := by decide +kernel
theorem dX6_day_42 : decode cX6_day 42 = .ok (.invokevirtual 143, 3) := by decide +kernel
theorem dX6_day_45 : decode cX6_day 45 = .ok (.iload_n 1, 1) := by decide +kernel
theorem dX6_day_46 : decode cX6_day 46 = .ok (.aload_n 0, 1) := by decide +kernel
theorem dX6_day_47 : decode cX6_day 47 = .ok (.iload_n 2, 1) := by decide +kernel
theorem dX6_day_48 : decode cX6_day 48 = .ok (.invokevirtual 124, 3) := by decide +kernel
theorem dX6_day_51 : decode cX6_day 51 = .ok (.ifCond .eq 7, 3) := by decide +kernel
theorem dX6_day_54 : decode cX6_day 54 = .ok (.iconst 1, 1) := by decide +kernel
theorem dX6_day_55 : decode cX6_day 55 = .ok (.goto 4, 3) := by decide +kernel
theorem dX6_day_58 : decode cX6_day 58 = .ok (.iconst 0, 1) := by decide +kernel
theorem dX6_day_59 : decode cX6_day 59 = .ok (.iadd, 1) := by decide +kernel
theorem dX6_day_60 : decode cX6_day 60 = .ok (.istore_n 1, 1) := by decide +kernel
theorem dX6_day_61 : decode cX6_day 61 = .ok (.iinc 2 1, 3) := by decide +kernel
theorem dX6_day_64 : decode cX6_day 64 = .ok (.goto (-52), 3) := by decide +kernel
theorem dX6_day_67 : decode cX6_day 67 = .ok (.aload_n 0, 1) := by decide +kernel
theorem dX6_day_68 : decode cX6_day 68 = .ok (.getfield 7, 3) := by decide +kernel
theorem dX6_day_71 : decode cX6_day 71 = .ok (.iconst 3, 1) := by decide +kernel
theorem dX6_day_72 : decode cX6_day 72 = .ok (.dup2, 1) := by decide +kernel
theorem dX6_day_73 : decode cX6_day 73 = .ok (.iaload, 1) := by decide +kernel
theorem dX6_day_74 : decode cX6_day 74 = .ok (.iconst 1, 1) := by decide +kernel
theorem dX6_day_75 : decode cX6_day 75 = .ok (.iadd, 1) := by decide +kernel
theorem dX6_day_76 : decode cX6_day 76 = .ok (.iastore, 1) := by decide +kernel
theorem dX6_day_77 : decode cX6_day 77 = .ok (.iload_n 1, 1) := by decide +kernel
theorem dX6_day_78 : decode cX6_day 78 = .ok (.ireturn, 1) := by decide +kernel
theorem dX6_sheetsOf_0 : decode cX6_sheetsOf 0 = .ok (.iconst 0, 1) := by decide +kernel
theorem dX6_sheetsOf_1 : decode cX6_sheetsOf 1 = .ok (.istore_n 2, 1) := by decide +kernel
theorem dX6_sheetsOf_2 : decode cX6_sheetsOf 2 = .ok (.iconst 0, 1) := by decide +kernel
theorem dX6_sheetsOf_3 : decode cX6_sheetsOf 3 = .ok (.istore_n 3, 1) := by decide +kernel
theorem dX6_sheetsOf_4 : decode cX6_sheetsOf 4 = .ok (.iload_n 3, 1) := by decide +kernel
theorem dX6_sheetsOf_5 : decode cX6_sheetsOf 5 = .ok (.aload_n 0, 1) := by decide +kernel
theorem dX6_sheetsOf_6 : decode cX6_sheetsOf 6 = .ok (.getfield 7, 3) := by decide +kernel
theorem dX6_sheetsOf_9 : decode cX6_sheetsOf 9 = .ok (.iconst 1, 1) := by decide +kernel
theorem dX6_sheetsOf_10 : decode cX6_sheetsOf 10 = .ok (.iaload, 1) := by decide +kernel
theorem dX6_sheetsOf_11 : decode cX6_sheetsOf 11 = .ok (.if_icmp .ge 27, 3) := by decide +kernel
theorem dX6_sheetsOf_14 : decode cX6_sheetsOf 14 = .ok (.iload_n 2, 1) := by decide +kernel
theorem dX6_sheetsOf_15 : decode cX6_sheetsOf 15 = .ok (.aload_n 0, 1) := by decide +kernel
theorem dX6_sheetsOf_16 : decode cX6_sheetsOf 16 = .ok (.iload_n 3, 1) := by decide +kernel
theorem dX6_sheetsOf_17 : decode cX6_sheetsOf 17 = .ok (.iconst 0, 1) := by decide +kernel
theorem dX6_sheetsOf_18 : decode cX6_sheetsOf 18 = .ok (.invokevirtual 80, 3) := by decide +kernel
theorem dX6_sheetsOf_21 : decode cX6_sheetsOf 21 = .ok (.iload_n 1, 1) := by decide +kernel
theorem dX6_sheetsOf_22 : decode cX6_sheetsOf 22 = .ok (.if_icmp .ne 7, 3) := by decide +kernel
theorem dX6_sheetsOf_25 : decode cX6_sheetsOf 25 = .ok (.iconst 1, 1) := by decide +kernel
theorem dX6_sheetsOf_26 : decode cX6_sheetsOf 26 = .ok (.goto 4, 3) := by decide +kernel
theorem dX6_sheetsOf_29 : decode cX6_sheetsOf 29 = .ok (.iconst 0, 1) := by decide +kernel
theorem dX6_sheetsOf_30 : decode cX6_sheetsOf 30 = .ok (.iadd, 1) := by decide +kernel
theorem dX6_sheetsOf_31 : decode cX6_sheetsOf 31 = .ok (.istore_n 2, 1) := by decide +kernel
theorem dX6_sheetsOf_32 : decode cX6_sheetsOf 32 = .ok (.iinc 3 1, 3) := by decide +kernel
theorem dX6_sheetsOf_35 : decode cX6_sheetsOf 35 = .ok (.goto (-31), 3) := by decide +kernel
theorem dX6_sheetsOf_38 : decode cX6_sheetsOf 38 = .ok (.iload_n 2, 1) := by decide +kernel
theorem dX6_sheetsOf_39 : decode cX6_sheetsOf 39 = .ok (.ireturn, 1) := by decide +kernel
theorem dX6_houseOf_0 : decode cX6_houseOf 0 = .ok (.aload_n 0, 1) := by decide +kernel
theorem dX6_houseOf_1 : decode cX6_houseOf 1 = .ok (.aload_n 0, 1) := by decide +kernel
theorem dX6_houseOf_2 : decode cX6_houseOf 2 = .ok (.iload_n 1, 1) := by decide +kernel
theorem dX6_houseOf_3 : decode cX6_houseOf 3 = .ok (.invokevirtual 101, 3) := by decide +kernel
theorem dX6_houseOf_6 : decode cX6_houseOf 6 = .ok (.ifCond .ne 7, 3) := by decide +kernel
theorem dX6_houseOf_9 : decode cX6_houseOf 9 = .ok (.iconst 1, 1) := by decide +kernel
theorem dX6_houseOf_10 : decode cX6_houseOf 10 = .ok (.goto 18, 3) := by decide +kernel
theorem dX6_houseOf_13 : decode cX6_houseOf 13 = .ok (.iload_n 2, 1) := by decide +kernel
theorem dX6_houseOf_14 : decode cX6_houseOf 14 = .ok (.iconst 0, 1) := by decide +kernel
theorem dX6_houseOf_15 : decode cX6_houseOf 15 = .ok (.bipush 6, 2) := by decide +kernel
theorem dX6_houseOf_17 : decode cX6_houseOf 17 = .ok (.invokestatic 72, 3) := by decide +kernel
theorem dX6_houseOf_20 : decode cX6_houseOf 20 = .ok (.ifCond .eq 7, 3) := by decide +kernel
theorem dX6_houseOf_23 : decode cX6_houseOf 23 = .ok (.iconst 0, 1) := by decide +kernel
theorem dX6_houseOf_24 : decode cX6_houseOf 24 = .ok (.goto 4, 3) := by decide +kernel
theorem dX6_houseOf_27 : decode cX6_houseOf 27 = .ok (.iconst 2, 1) := by decide +kernel
theorem dX6_houseOf_28 : decode cX6_houseOf 28 = .ok (.invokevirtual 86, 3) := by decide +kernel
theorem dX6_houseOf_31 : decode cX6_houseOf 31 = .ok (.ifCond .eq 5, 3) := by decide +kernel
theorem dX6_houseOf_34 : decode cX6_houseOf 34 = .ok (.iconst 0, 1) := by decide +kernel
theorem dX6_houseOf_35 : decode cX6_houseOf 35 = .ok (.ireturn, 1) := by decide +kernel
theorem dX6_houseOf_36 : decode cX6_houseOf 36 = .ok (.iload_n 2, 1) := by decide +kernel
theorem dX6_houseOf_37 : decode cX6_houseOf 37 = .ok (.tableswitch 72 0 5 #[39, 39, 46, 52, 59, 66], 39) := by decide +kernel
theorem dX6_houseOf_76 : decode cX6_houseOf 76 = .ok (.aload_n 0, 1) := by decide +kernel
theorem dX6_houseOf_77 : decode cX6_houseOf 77 = .ok (.iload_n 1, 1) := by decide +kernel
theorem dX6_houseOf_78 : decode cX6_houseOf 78 = .ok (.iload_n 2, 1) := by decide +kernel
theorem dX6_houseOf_79 : decode cX6_houseOf 79 = .ok (.invokevirtual 65, 3) := by decide +kernel
theorem dX6_houseOf_82 : decode cX6_houseOf 82 = .ok (.ireturn, 1) := by decide +kernel
theorem dX6_houseOf_83 : decode cX6_houseOf 83 = .ok (.aload_n 0, 1) := by decide +kernel
theorem dX6_houseOf_84 : decode cX6_houseOf 84 = .ok (.iload_n 1, 1) := by decide +kernel
theorem dX6_houseOf_85 : decode cX6_houseOf 85 = .ok (.invokevirtual 149, 3) := by decide +kernel
theorem dX6_houseOf_88 : decode cX6_houseOf 88 = .ok (.ireturn, 1) := by decide +kernel
theorem dX6_houseOf_89 : decode cX6_houseOf 89 = .ok (.aload_n 0, 1) := by decide +kernel
theorem dX6_houseOf_90 : decode cX6_houseOf 90 = .ok (.iload_n 1, 1) := by decide +kernel
theorem dX6_houseOf_91 : decode cX6_houseOf 91 = .ok (.iconst 1, 1) := by decide +kernel
theorem dX6_houseOf_92 : decode cX6_houseOf 92 = .ok (.invokevirtual 121, 3) := by decide +kernel
theorem dX6_houseOf_95 : decode cX6_houseOf 95 = .ok (.ireturn, 1) := by decide +kernel
theorem dX6_houseOf_96 : decode cX6_houseOf 96 = .ok (.aload_n 0, 1) := by decide +kernel
theorem dX6_houseOf_97 : decode cX6_houseOf 97 = .ok (.iload_n 1, 1) := by decide +kernel
theorem dX6_houseOf_98 : decode cX6_houseOf 98 = .ok (.iconst 2, 1) := by decide +kernel
theorem dX6_houseOf_99 : decode cX6_houseOf 99 = .ok (.invokevirtual 121, 3) := by decide +kernel
theorem dX6_houseOf_102 : decode cX6_houseOf 102 = .ok (.ireturn, 1) := by decide +kernel
theorem dX6_houseOf_103 : decode cX6_houseOf 103 = .ok (.aload_n 0, 1) := by decide +kernel
theorem dX6_houseOf_104 : decode cX6_houseOf 104 = .ok (.iload_n 1, 1) := by decide +kernel
theorem dX6_houseOf_105 : decode cX6_houseOf 105 = .ok (.invokevirtual 127, 3) := by decide +kernel
theorem dX6_houseOf_108 : decode cX6_houseOf 108 = .ok (.ireturn, 1) := by decide +kernel
theorem dX6_houseOf_109 : decode cX6_houseOf 109 = .ok (.aload_n 0, 1) := by decide +kernel
theorem dX6_houseOf_110 : decode cX6_houseOf 110 = .ok (.iload_n 1, 1) := by decide +kernel
theorem dX6_houseOf_111 : decode cX6_houseOf 111 = .ok (.iconst 2, 1) := by decide +kernel
theorem dX6_houseOf_112 : decode cX6_houseOf 112 = .ok (.invokevirtual 65, 3) := by decide +kernel
theorem dX6_houseOf_115 : decode cX6_houseOf 115 = .ok (.ireturn, 1) := by decide +kernel
theorem dX6_badOf_0 : decode cX6_badOf 0 = .ok (.iconst 0, 1) := by decide +kernel
theorem dX6_badOf_1 : decode cX6_badOf 1 = .ok (.istore_n 2, 1) := by decide +kernel
theorem dX6_badOf_2 : decode cX6_badOf 2 = .ok (.iconst 0, 1) := by decide +kernel
theorem dX6_badOf_3 : decode cX6_badOf 3 = .ok (.istore_n 3, 1) := by decide +kernel
theorem dX6_badOf_4 : decode cX6_badOf 4 = .ok (.iload_n 3, 1) := by decide +kernel
theorem dX6_badOf_5 : decode cX6_badOf 5 = .ok (.aload_n 0, 1) := by decide +kernel
theorem dX6_badOf_6 : decode cX6_badOf 6 = .ok (.iload_n 1, 1) := by decide +kernel
theorem dX6_badOf_7 : decode cX6_badOf 7 = .ok (.iconst 1, 1) := by decide +kernel
theorem dX6_badOf_8 : decode cX6_badOf 8 = .ok (.invokevirtual 80, 3) := by decide +kernel
theorem dX6_badOf_11 : decode cX6_badOf 11 = .ok (.if_icmp .ge 18, 3) := by decide +kernel
theorem dX6_badOf_14 : decode cX6_badOf 14 = .ok (.iload_n 2, 1) := by decide +kernel
theorem dX6_badOf_15 : decode cX6_badOf 15 = .ok (.aload_n 0, 1) := by decide +kernel
theorem dX6_badOf_16 : decode cX6_badOf 16 = .ok (.iload_n 1, 1) := by decide +kernel
theorem dX6_badOf_17 : decode cX6_badOf 17 = .ok (.iload_n 3, 1) := by decide +kernel
theorem dX6_badOf_18 : decode cX6_badOf 18 = .ok (.invokevirtual 130, 3) := by decide +kernel
theorem dX6_badOf_21 : decode cX6_badOf 21 = .ok (.iadd, 1) := by decide +kernel
theorem dX6_badOf_22 : decode cX6_badOf 22 = .ok (.istore_n 2, 1) := by decide +kernel
theorem dX6_badOf_23 : decode cX6_badOf 23 = .ok (.iinc 3 1, 3) := by decide +kernel
theorem dX6_badOf_26 : decode cX6_badOf 26 = .ok (.goto (-22), 3) := by decide +kernel
theorem dX6_badOf_29 : decode cX6_badOf 29 = .ok (.iload_n 2, 1) := by decide +kernel
theorem dX6_badOf_30 : decode cX6_badOf 30 = .ok (.ireturn, 1) := by decide +kernel
theorem dX6_sheetOf_0 : decode cX6_sheetOf 0 = .ok (.aload_n 0, 1) := by decide +kernel
theorem dX6_sheetOf_1 : decode cX6_sheetOf 1 = .ok (.aload_n 0, 1) := by decide +kernel
theorem dX6_sheetOf_2 : decode cX6_sheetOf 2 = .ok (.iload_n 1, 1) := by decide +kernel
theorem dX6_sheetOf_3 : decode cX6_sheetOf 3 = .ok (.invokevirtual 76, 3) := by decide +kernel
theorem dX6_sheetOf_6 : decode cX6_sheetOf 6 = .ok (.ifCond .ne 7, 3) := by decide +kernel
theorem dX6_sheetOf_9 : decode cX6_sheetOf 9 = .ok (.iconst 1, 1) := by decide +kernel
theorem dX6_sheetOf_10 : decode cX6_sheetOf 10 = .ok (.goto 17, 3) := by decide +kernel
theorem dX6_sheetOf_13 : decode cX6_sheetOf 13 = .ok (.iload_n 2, 1) := by decide +kernel
theorem dX6_sheetOf_14 : decode cX6_sheetOf 14 = .ok (.iconst 0, 1) := by decide +kernel
theorem dX6_sheetOf_15 : decode cX6_sheetOf 15 = .ok (.iconst 5, 1) := by decide +kernel
theorem dX6_sheetOf_16 : decode cX6_sheetOf 16 = .ok (.invokestatic 72, 3) := by decide +kernel
theorem dX6_sheetOf_19 : decode cX6_sheetOf 19 = .ok (.ifCond .eq 7, 3) := by decide +kernel
theorem dX6_sheetOf_22 : decode cX6_sheetOf 22 = .ok (.iconst 0, 1) := by decide +kernel
theorem dX6_sheetOf_23 : decode cX6_sheetOf 23 = .ok (.goto 4, 3) := by decide +kernel
theorem dX6_sheetOf_26 : decode cX6_sheetOf 26 = .ok (.iconst 2, 1) := by decide +kernel
theorem dX6_sheetOf_27 : decode cX6_sheetOf 27 = .ok (.invokevirtual 86, 3) := by decide +kernel
theorem dX6_sheetOf_30 : decode cX6_sheetOf 30 = .ok (.ifCond .eq 5, 3) := by decide +kernel
theorem dX6_sheetOf_33 : decode cX6_sheetOf 33 = .ok (.iconst 0, 1) := by decide +kernel
theorem dX6_sheetOf_34 : decode cX6_sheetOf 34 = .ok (.ireturn, 1) := by decide +kernel
theorem dX6_sheetOf_35 : decode cX6_sheetOf 35 = .ok (.iload_n 2, 1) := by decide +kernel
theorem dX6_sheetOf_36 : decode cX6_sheetOf 36 = .ok (.iconst 2, 1) := by decide +kernel
theorem dX6_sheetOf_37 : decode cX6_sheetOf 37 = .ok (.if_icmp .ge 12, 3) := by decide +kernel
theorem dX6_sheetOf_40 : decode cX6_sheetOf 40 = .ok (.aload_n 0, 1) := by decide +kernel
theorem dX6_sheetOf_41 : decode cX6_sheetOf 41 = .ok (.iload_n 1, 1) := by decide +kernel
theorem dX6_sheetOf_42 : decode cX6_sheetOf 42 = .ok (.iload_n 2, 1) := by decide +kernel
theorem dX6_sheetOf_43 : decode cX6_sheetOf 43 = .ok (.invokevirtual 80, 3) := by decide +kernel
theorem dX6_sheetOf_46 : decode cX6_sheetOf 46 = .ok (.goto 24, 3) := by decide +kernel
theorem dX6_sheetOf_49 : decode cX6_sheetOf 49 = .ok (.iload_n 2, 1) := by decide +kernel
theorem dX6_sheetOf_50 : decode cX6_sheetOf 50 = .ok (.iconst 5, 1) := by decide +kernel
theorem dX6_sheetOf_51 : decode cX6_sheetOf 51 = .ok (.if_icmp .ne 11, 3) := by decide +kernel
theorem dX6_sheetOf_54 : decode cX6_sheetOf 54 = .ok (.aload_n 0, 1) := by decide +kernel
theorem dX6_sheetOf_55 : decode cX6_sheetOf 55 = .ok (.iload_n 1, 1) := by decide +kernel
theorem dX6_sheetOf_56 : decode cX6_sheetOf 56 = .ok (.invokevirtual 152, 3) := by decide +kernel
theorem dX6_sheetOf_59 : decode cX6_sheetOf 59 = .ok (.goto 11, 3) := by decide +kernel
theorem dX6_sheetOf_62 : decode cX6_sheetOf 62 = .ok (.aload_n 0, 1) := by decide +kernel
theorem dX6_sheetOf_63 : decode cX6_sheetOf 63 = .ok (.iload_n 1, 1) := by decide +kernel
theorem dX6_sheetOf_64 : decode cX6_sheetOf 64 = .ok (.iload_n 2, 1) := by decide +kernel
theorem dX6_sheetOf_65 : decode cX6_sheetOf 65 = .ok (.iconst 1, 1) := by decide +kernel
theorem dX6_sheetOf_66 : decode cX6_sheetOf 66 = .ok (.isub, 1) := by decide +kernel
theorem dX6_sheetOf_67 : decode cX6_sheetOf 67 = .ok (.invokevirtual 118, 3) := by decide +kernel
theorem dX6_sheetOf_70 : decode cX6_sheetOf 70 = .ok (.ireturn, 1) := by decide +kernel
theorem dX6_isNowhere_0 : decode cX6_isNowhere 0 = .ok (.aload_n 0, 1) := by decide +kernel
theorem dX6_isNowhere_1 : decode cX6_isNowhere 1 = .ok (.aload_n 0, 1) := by decide +kernel
theorem dX6_isNowhere_2 : decode cX6_isNowhere 2 = .ok (.iload_n 1, 1) := by decide +kernel
theorem dX6_isNowhere_3 : decode cX6_isNowhere 3 = .ok (.iload_n 2, 1) := by decide +kernel
theorem dX6_isNowhere_4 : decode cX6_isNowhere 4 = .ok (.invokevirtual 114, 3) := by decide +kernel
theorem dX6_isNowhere_7 : decode cX6_isNowhere 7 = .ok (.ifCond .eq 7, 3) := by decide +kernel
theorem dX6_isNowhere_10 : decode cX6_isNowhere 10 = .ok (.iconst 0, 1) := by decide +kernel
theorem dX6_isNowhere_11 : decode cX6_isNowhere 11 = .ok (.goto 4, 3) := by decide +kernel
theorem dX6_isNowhere_14 : decode cX6_isNowhere 14 = .ok (.iconst 1, 1) := by decide +kernel
theorem dX6_isNowhere_15 : decode cX6_isNowhere 15 = .ok (.invokevirtual 86, 3) := by decide +kernel
theorem dX6_isNowhere_18 : decode cX6_isNowhere 18 = .ok (.ireturn, 1) := by decide +kernel
theorem dX6_letterAt_0 : decode cX6_letterAt 0 = .ok (.aload_n 0, 1) := by decide +kernel
theorem dX6_letterAt_1 : decode cX6_letterAt 1 = .ok (.iload_n 1, 1) := by decide +kernel
theorem dX6_letterAt_2 : decode cX6_letterAt 2 = .ok (.iload_n 2, 1) := by decide +kernel
theorem dX6_letterAt_3 : decode cX6_letterAt 3 = .ok (.invokevirtual 155, 3) := by decide +kernel
theorem dX6_letterAt_6 : decode cX6_letterAt 6 = .ok (.ifCond .eq 8, 3) := by decide +kernel
theorem dX6_letterAt_9 : decode cX6_letterAt 9 = .ok (.bipush 32, 2) := by decide +kernel
theorem dX6_letterAt_11 : decode cX6_letterAt 11 = .ok (.goto 24, 3) := by decide +kernel
theorem dX6_letterAt_14 : decode cX6_letterAt 14 = .ok (.bipush 96, 2) := by decide +kernel
theorem dX6_letterAt_16 : decode cX6_letterAt 16 = .ok (.aload_n 0, 1) := by decide +kernel
theorem dX6_letterAt_17 : decode cX6_letterAt 17 = .ok (.iload_n 1, 1) := by decide +kernel
theorem dX6_letterAt_18 : decode cX6_letterAt 18 = .ok (.iload_n 3, 1) := by decide +kernel
theorem dX6_letterAt_19 : decode cX6_letterAt 19 = .ok (.ifCond .eq 7, 3) := by decide +kernel
theorem dX6_letterAt_22 : decode cX6_letterAt 22 = .ok (.iconst 2, 1) := by decide +kernel
theorem dX6_letterAt_23 : decode cX6_letterAt 23 = .ok (.goto 5, 3) := by decide +kernel
theorem dX6_letterAt_26 : decode cX6_letterAt 26 = .ok (.bipush 10, 2) := by decide +kernel
theorem dX6_letterAt_28 : decode cX6_letterAt 28 = .ok (.iload_n 2, 1) := by decide +kernel
theorem dX6_letterAt_29 : decode cX6_letterAt 29 = .ok (.iadd, 1) := by decide +kernel
theorem dX6_letterAt_30 : decode cX6_letterAt 30 = .ok (.invokevirtual 80, 3) := by decide +kernel
theorem dX6_letterAt_33 : decode cX6_letterAt 33 = .ok (.iadd, 1) := by decide +kernel
theorem dX6_letterAt_34 : decode cX6_letterAt 34 = .ok (.i2c, 1) := by decide +kernel
theorem dX6_letterAt_35 : decode cX6_letterAt 35 = .ok (.ireturn, 1) := by decide +kernel
theorem dX6_markAt_0 : decode cX6_markAt 0 = .ok (.aload_n 0, 1) := by decide +kernel
theorem dX6_markAt_1 : decode cX6_markAt 1 = .ok (.iload_n 1, 1) := by decide +kernel
theorem dX6_markAt_2 : decode cX6_markAt 2 = .ok (.iload_n 2, 1) := by decide +kernel
theorem dX6_markAt_3 : decode cX6_markAt 3 = .ok (.invokevirtual 155, 3) := by decide +kernel
theorem dX6_markAt_6 : decode cX6_markAt 6 = .ok (.ifCond .eq 7, 3) := by decide +kernel
theorem dX6_markAt_9 : decode cX6_markAt 9 = .ok (.iconst 0, 1) := by decide +kernel
theorem dX6_markAt_10 : decode cX6_markAt 10 = .ok (.goto 9, 3) := by decide +kernel
theorem dX6_markAt_13 : decode cX6_markAt 13 = .ok (.aload_n 0, 1) := by decide +kernel
theorem dX6_markAt_14 : decode cX6_markAt 14 = .ok (.iload_n 1, 1) := by decide +kernel
theorem dX6_markAt_15 : decode cX6_markAt 15 = .ok (.iload_n 2, 1) := by decide +kernel
theorem dX6_markAt_16 : decode cX6_markAt 16 = .ok (.invokevirtual 111, 3) := by decide +kernel
theorem dX6_markAt_19 : decode cX6_markAt 19 = .ok (.ireturn, 1) := by decide +kernel
theorem dX6_fine_0 : decode cX6_fine 0 = .ok (.aload_n 0, 1) := by decide +kernel
theorem dX6_fine_1 : decode cX6_fine 1 = .ok (.iload_n 1, 1) := by decide +kernel
theorem dX6_fine_2 : decode cX6_fine 2 = .ok (.iload_n 2, 1) := by decide +kernel
theorem dX6_fine_3 : decode cX6_fine 3 = .ok (.invokevirtual 155, 3) := by decide +kernel
theorem dX6_fine_6 : decode cX6_fine 6 = .ok (.ifCond .eq 7, 3) := by decide +kernel
theorem dX6_fine_9 : decode cX6_fine 9 = .ok (.iconst 0, 1) := by decide +kernel
theorem dX6_fine_10 : decode cX6_fine 10 = .ok (.goto 9, 3) := by decide +kernel
theorem dX6_fine_13 : decode cX6_fine 13 = .ok (.aload_n 0, 1) := by decide +kernel
theorem dX6_fine_14 : decode cX6_fine 14 = .ok (.iload_n 1, 1) := by decide +kernel
theorem dX6_fine_15 : decode cX6_fine 15 = .ok (.iload_n 2, 1) := by decide +kernel
theorem dX6_fine_16 : decode cX6_fine 16 = .ok (.invokevirtual 133, 3) := by decide +kernel
theorem dX6_fine_19 : decode cX6_fine 19 = .ok (.ireturn, 1) := by decide +kernel
theorem dX6_finesOf_0 : decode cX6_finesOf 0 = .ok (.iconst 0, 1) := by decide +kernel
theorem dX6_finesOf_1 : decode cX6_finesOf 1 = .ok (.istore_n 2, 1) := by decide +kernel
theorem dX6_finesOf_2 : decode cX6_finesOf 2 = .ok (.iconst 0, 1) := by decide +kernel
theorem dX6_finesOf_3 : decode cX6_finesOf 3 = .ok (.istore_n 3, 1) := by decide +kernel
theorem dX6_finesOf_4 : decode cX6_finesOf 4 = .ok (.iload_n 3, 1) := by decide +kernel
theorem dX6_finesOf_5 : decode cX6_finesOf 5 = .ok (.aload_n 0, 1) := by decide +kernel
theorem dX6_finesOf_6 : decode cX6_finesOf 6 = .ok (.iload_n 1, 1) := by decide +kernel
theorem dX6_finesOf_7 : decode cX6_finesOf 7 = .ok (.iconst 1, 1) := by decide +kernel
theorem dX6_finesOf_8 : decode cX6_finesOf 8 = .ok (.invokevirtual 80, 3) := by decide +kernel
theorem dX6_finesOf_11 : decode cX6_finesOf 11 = .ok (.if_icmp .ge 18, 3) := by decide +kernel
theorem dX6_finesOf_14 : decode cX6_finesOf 14 = .ok (.iload_n 2, 1) := by decide +kernel
theorem dX6_finesOf_15 : decode cX6_finesOf 15 = .ok (.aload_n 0, 1) := by decide +kernel
theorem dX6_finesOf_16 : decode cX6_finesOf 16 = .ok (.iload_n 1, 1) := by decide +kernel
theorem dX6_finesOf_17 : decode cX6_finesOf 17 = .ok (.iload_n 3, 1) := by decide +kernel
theorem dX6_finesOf_18 : decode cX6_finesOf 18 = .ok (.invokevirtual 133, 3) := by decide +kernel
theorem dX6_finesOf_21 : decode cX6_finesOf 21 = .ok (.iadd, 1) := by decide +kernel
theorem dX6_finesOf_22 : decode cX6_finesOf 22 = .ok (.istore_n 2, 1) := by decide +kernel
theorem dX6_finesOf_23 : decode cX6_finesOf 23 = .ok (.iinc 3 1, 3) := by decide +kernel
theorem dX6_finesOf_26 : decode cX6_finesOf 26 = .ok (.goto (-22), 3) := by decide +kernel
theorem dX6_finesOf_29 : decode cX6_finesOf 29 = .ok (.iload_n 2, 1) := by decide +kernel
theorem dX6_finesOf_30 : decode cX6_finesOf 30 = .ok (.ireturn, 1) := by decide +kernel
theorem dX6_fines_0 : decode cX6_fines 0 = .ok (.aload_n 0, 1) := by decide +kernel
theorem dX6_fines_1 : decode cX6_fines 1 = .ok (.aload_n 0, 1) := by decide +kernel
theorem dX6_fines_2 : decode cX6_fines 2 = .ok (.iload_n 1, 1) := by decide +kernel
theorem dX6_fines_3 : decode cX6_fines 3 = .ok (.invokevirtual 76, 3) := by decide +kernel
