theorem dX6_fines_6 : decode cX6_fines 6 = .ok (.ifCond .eq 7, 3) := by decide +kernel
theorem dX6_fines_9 : decode cX6_fines 9 = .ok (.iconst 0, 1) := by decide +kernel
theorem dX6_fines_10 : decode cX6_fines 10 = .ok (.goto 4, 3) := by decide +kernel
theorem dX6_fines_13 : decode cX6_fines 13 = .ok (.iconst 1, 1) := by decide +kernel
theorem dX6_fines_14 : decode cX6_fines 14 = .ok (.invokevirtual 86, 3) := by decide +kernel
theorem dX6_fines_17 : decode cX6_fines 17 = .ok (.ifCond .eq 7, 3) := by decide +kernel
theorem dX6_fines_20 : decode cX6_fines 20 = .ok (.iconst 0, 1) := by decide +kernel
theorem dX6_fines_21 : decode cX6_fines 21 = .ok (.goto 8, 3) := by decide +kernel
theorem dX6_fines_24 : decode cX6_fines 24 = .ok (.aload_n 0, 1) := by decide +kernel
theorem dX6_fines_25 : decode cX6_fines 25 = .ok (.iload_n 1, 1) := by decide +kernel
theorem dX6_fines_26 : decode cX6_fines 26 = .ok (.invokevirtual 158, 3) := by decide +kernel
theorem dX6_fines_29 : decode cX6_fines 29 = .ok (.ireturn, 1) := by decide +kernel
theorem dX6_canMend_0 : decode cX6_canMend 0 = .ok (.aload_n 0, 1) := by decide +kernel
theorem dX6_canMend_1 : decode cX6_canMend 1 = .ok (.aload_n 0, 1) := by decide +kernel
theorem dX6_canMend_2 : decode cX6_canMend 2 = .ok (.iload_n 1, 1) := by decide +kernel
theorem dX6_canMend_3 : decode cX6_canMend 3 = .ok (.invokevirtual 76, 3) := by decide +kernel
theorem dX6_canMend_6 : decode cX6_canMend 6 = .ok (.ifCond .eq 7, 3) := by decide +kernel
theorem dX6_canMend_9 : decode cX6_canMend 9 = .ok (.iconst 0, 1) := by decide +kernel
theorem dX6_canMend_10 : decode cX6_canMend 10 = .ok (.goto 4, 3) := by decide +kernel
theorem dX6_canMend_13 : decode cX6_canMend 13 = .ok (.iconst 1, 1) := by decide +kernel
theorem dX6_canMend_14 : decode cX6_canMend 14 = .ok (.invokevirtual 86, 3) := by decide +kernel
theorem dX6_canMend_17 : decode cX6_canMend 17 = .ok (.ifCond .ne 26, 3) := by decide +kernel
theorem dX6_canMend_20 : decode cX6_canMend 20 = .ok (.aload_n 0, 1) := by decide +kernel
theorem dX6_canMend_21 : decode cX6_canMend 21 = .ok (.aload_n 0, 1) := by decide +kernel
theorem dX6_canMend_22 : decode cX6_canMend 22 = .ok (.iload_n 1, 1) := by decide +kernel
theorem dX6_canMend_23 : decode cX6_canMend 23 = .ok (.iconst 0, 1) := by decide +kernel
theorem dX6_canMend_24 : decode cX6_canMend 24 = .ok (.invokevirtual 80, 3) := by decide +kernel
theorem dX6_canMend_27 : decode cX6_canMend 27 = .ok (.iconst 0, 1) := by decide +kernel
theorem dX6_canMend_28 : decode cX6_canMend 28 = .ok (.invokevirtual 65, 3) := by decide +kernel
theorem dX6_canMend_31 : decode cX6_canMend 31 = .ok (.aload_n 0, 1) := by decide +kernel
theorem dX6_canMend_32 : decode cX6_canMend 32 = .ok (.iload_n 1, 1) := by decide +kernel
theorem dX6_canMend_33 : decode cX6_canMend 33 = .ok (.invokevirtual 158, 3) := by decide +kernel
theorem dX6_canMend_36 : decode cX6_canMend 36 = .ok (.if_icmp .lt 7, 3) := by decide +kernel
theorem dX6_canMend_39 : decode cX6_canMend 39 = .ok (.iconst 1, 1) := by decide +kernel
theorem dX6_canMend_40 : decode cX6_canMend 40 = .ok (.goto 4, 3) := by decide +kernel
theorem dX6_canMend_43 : decode cX6_canMend 43 = .ok (.iconst 0, 1) := by decide +kernel
theorem dX6_canMend_44 : decode cX6_canMend 44 = .ok (.ireturn, 1) := by decide +kernel
theorem dX6_laughing_0 : decode cX6_laughing 0 = .ok (.aload_n 0, 1) := by decide +kernel
theorem dX6_laughing_1 : decode cX6_laughing 1 = .ok (.iload_n 1, 1) := by decide +kernel
theorem dX6_laughing_2 : decode cX6_laughing 2 = .ok (.iload_n 2, 1) := by decide +kernel
theorem dX6_laughing_3 : decode cX6_laughing 3 = .ok (.invokevirtual 155, 3) := by decide +kernel
theorem dX6_laughing_6 : decode cX6_laughing 6 = .ok (.ifCond .eq 7, 3) := by decide +kernel
theorem dX6_laughing_9 : decode cX6_laughing 9 = .ok (.iconst 0, 1) := by decide +kernel
theorem dX6_laughing_10 : decode cX6_laughing 10 = .ok (.goto 9, 3) := by decide +kernel
theorem dX6_laughing_13 : decode cX6_laughing 13 = .ok (.aload_n 0, 1) := by decide +kernel
theorem dX6_laughing_14 : decode cX6_laughing 14 = .ok (.iload_n 1, 1) := by decide +kernel
theorem dX6_laughing_15 : decode cX6_laughing 15 = .ok (.iload_n 2, 1) := by decide +kernel
theorem dX6_laughing_16 : decode cX6_laughing 16 = .ok (.invokevirtual 136, 3) := by decide +kernel
theorem dX6_laughing_19 : decode cX6_laughing 19 = .ok (.ireturn, 1) := by decide +kernel
theorem dX6_canLicense_0 : decode cX6_canLicense 0 = .ok (.aload_n 0, 1) := by decide +kernel
theorem dX6_canLicense_1 : decode cX6_canLicense 1 = .ok (.iload_n 1, 1) := by decide +kernel
theorem dX6_canLicense_2 : decode cX6_canLicense 2 = .ok (.iconst 0, 1) := by decide +kernel
theorem dX6_canLicense_3 : decode cX6_canLicense 3 = .ok (.invokevirtual 80, 3) := by decide +kernel
theorem dX6_canLicense_6 : decode cX6_canLicense 6 = .ok (.istore_n 3, 1) := by decide +kernel
theorem dX6_canLicense_7 : decode cX6_canLicense 7 = .ok (.aload_n 0, 1) := by decide +kernel
theorem dX6_canLicense_8 : decode cX6_canLicense 8 = .ok (.iload_n 1, 1) := by decide +kernel
theorem dX6_canLicense_9 : decode cX6_canLicense 9 = .ok (.iload_n 2, 1) := by decide +kernel
theorem dX6_canLicense_10 : decode cX6_canLicense 10 = .ok (.invokevirtual 111, 3) := by decide +kernel
theorem dX6_canLicense_13 : decode cX6_canLicense 13 = .ok (.iconst 1, 1) := by decide +kernel
theorem dX6_canLicense_14 : decode cX6_canLicense 14 = .ok (.if_icmp .ne 29, 3) := by decide +kernel
theorem dX6_canLicense_17 : decode cX6_canLicense 17 = .ok (.aload_n 0, 1) := by decide +kernel
theorem dX6_canLicense_18 : decode cX6_canLicense 18 = .ok (.iload_n 3, 1) := by decide +kernel
theorem dX6_canLicense_19 : decode cX6_canLicense 19 = .ok (.invokevirtual 124, 3) := by decide +kernel
theorem dX6_canLicense_22 : decode cX6_canLicense 22 = .ok (.ifCond .ne 21, 3) := by decide +kernel
theorem dX6_canLicense_25 : decode cX6_canLicense 25 = .ok (.aload_n 0, 1) := by decide +kernel
theorem dX6_canLicense_26 : decode cX6_canLicense 26 = .ok (.iload_n 3, 1) := by decide +kernel
theorem dX6_canLicense_27 : decode cX6_canLicense 27 = .ok (.iconst 0, 1) := by decide +kernel
theorem dX6_canLicense_28 : decode cX6_canLicense 28 = .ok (.invokevirtual 65, 3) := by decide +kernel
theorem dX6_canLicense_31 : decode cX6_canLicense 31 = .ok (.aload_n 0, 1) := by decide +kernel
theorem dX6_canLicense_32 : decode cX6_canLicense 32 = .ok (.iload_n 3, 1) := by decide +kernel
theorem dX6_canLicense_33 : decode cX6_canLicense 33 = .ok (.invokevirtual 127, 3) := by decide +kernel
theorem dX6_canLicense_36 : decode cX6_canLicense 36 = .ok (.if_icmp .lt 7, 3) := by decide +kernel
theorem dX6_canLicense_39 : decode cX6_canLicense 39 = .ok (.iconst 1, 1) := by decide +kernel
theorem dX6_canLicense_40 : decode cX6_canLicense 40 = .ok (.goto 4, 3) := by decide +kernel
theorem dX6_canLicense_43 : decode cX6_canLicense 43 = .ok (.iconst 0, 1) := by decide +kernel
theorem dX6_canLicense_44 : decode cX6_canLicense 44 = .ok (.ireturn, 1) := by decide +kernel
theorem dX6_bargain_0 : decode cX6_bargain 0 = .ok (.iconst (-1), 1) := by decide +kernel
theorem dX6_bargain_1 : decode cX6_bargain 1 = .ok (.istore_n 2, 1) := by decide +kernel
theorem dX6_bargain_2 : decode cX6_bargain 2 = .ok (.iconst 0, 1) := by decide +kernel
theorem dX6_bargain_3 : decode cX6_bargain 3 = .ok (.istore_n 3, 1) := by decide +kernel
theorem dX6_bargain_4 : decode cX6_bargain 4 = .ok (.iconst 0, 1) := by decide +kernel
theorem dX6_bargain_5 : decode cX6_bargain 5 = .ok (.istore 4, 2) := by decide +kernel
theorem dX6_bargain_7 : decode cX6_bargain 7 = .ok (.iload 4, 2) := by decide +kernel
theorem dX6_bargain_9 : decode cX6_bargain 9 = .ok (.bipush 8, 2) := by decide +kernel
theorem dX6_bargain_11 : decode cX6_bargain 11 = .ok (.aload_n 0, 1) := by decide +kernel
theorem dX6_bargain_12 : decode cX6_bargain 12 = .ok (.getfield 7, 3) := by decide +kernel
theorem dX6_bargain_15 : decode cX6_bargain 15 = .ok (.iconst 1, 1) := by decide +kernel
theorem dX6_bargain_16 : decode cX6_bargain 16 = .ok (.iaload, 1) := by decide +kernel
theorem dX6_bargain_17 : decode cX6_bargain 17 = .ok (.imul, 1) := by decide +kernel
theorem dX6_bargain_18 : decode cX6_bargain 18 = .ok (.if_icmp .ge 96, 3) := by decide +kernel
theorem dX6_bargain_21 : decode cX6_bargain 21 = .ok (.aload_n 0, 1) := by decide +kernel
theorem dX6_bargain_22 : decode cX6_bargain 22 = .ok (.iload 4, 2) := by decide +kernel
theorem dX6_bargain_24 : decode cX6_bargain 24 = .ok (.bipush 8, 2) := by decide +kernel
theorem dX6_bargain_26 : decode cX6_bargain 26 = .ok (.idiv, 1) := by decide +kernel
theorem dX6_bargain_27 : decode cX6_bargain 27 = .ok (.iload 4, 2) := by decide +kernel
theorem dX6_bargain_29 : decode cX6_bargain 29 = .ok (.bipush 8, 2) := by decide +kernel
theorem dX6_bargain_31 : decode cX6_bargain 31 = .ok (.irem, 1) := by decide +kernel
theorem dX6_bargain_32 : decode cX6_bargain 32 = .ok (.invokevirtual 114, 3) := by decide +kernel
theorem dX6_bargain_35 : decode cX6_bargain 35 = .ok (.ifCond .eq 73, 3) := by decide +kernel
theorem dX6_bargain_38 : decode cX6_bargain 38 = .ok (.aload_n 0, 1) := by decide +kernel
theorem dX6_bargain_39 : decode cX6_bargain 39 = .ok (.iload 4, 2) := by decide +kernel
theorem dX6_bargain_41 : decode cX6_bargain 41 = .ok (.bipush 8, 2) := by decide +kernel
theorem dX6_bargain_43 : decode cX6_bargain 43 = .ok (.idiv, 1) := by decide +kernel
theorem dX6_bargain_44 : decode cX6_bargain 44 = .ok (.iload 4, 2) := by decide +kernel
theorem dX6_bargain_46 : decode cX6_bargain 46 = .ok (.bipush 8, 2) := by decide +kernel
theorem dX6_bargain_48 : decode cX6_bargain 48 = .ok (.irem, 1) := by decide +kernel
theorem dX6_bargain_49 : decode cX6_bargain 49 = .ok (.invokevirtual 161, 3) := by decide +kernel
theorem dX6_bargain_52 : decode cX6_bargain 52 = .ok (.ifCond .ne 6, 3) := by decide +kernel
theorem dX6_bargain_55 : decode cX6_bargain 55 = .ok (.goto 53, 3) := by decide +kernel
theorem dX6_bargain_58 : decode cX6_bargain 58 = .ok (.aload_n 0, 1) := by decide +kernel
theorem dX6_bargain_59 : decode cX6_bargain 59 = .ok (.iload 4, 2) := by decide +kernel
theorem dX6_bargain_61 : decode cX6_bargain 61 = .ok (.bipush 8, 2) := by decide +kernel
theorem dX6_bargain_63 : decode cX6_bargain 63 = .ok (.idiv, 1) := by decide +kernel
theorem dX6_bargain_64 : decode cX6_bargain 64 = .ok (.iload 4, 2) := by decide +kernel
theorem dX6_bargain_66 : decode cX6_bargain 66 = .ok (.bipush 8, 2) := by decide +kernel
theorem dX6_bargain_68 : decode cX6_bargain 68 = .ok (.irem, 1) := by decide +kernel
theorem dX6_bargain_69 : decode cX6_bargain 69 = .ok (.invokevirtual 146, 3) := by decide +kernel
theorem dX6_bargain_72 : decode cX6_bargain 72 = .ok (.aload_n 0, 1) := by decide +kernel
theorem dX6_bargain_73 : decode cX6_bargain 73 = .ok (.aload_n 0, 1) := by decide +kernel
theorem dX6_bargain_74 : decode cX6_bargain 74 = .ok (.iload 4, 2) := by decide +kernel
theorem dX6_bargain_76 : decode cX6_bargain 76 = .ok (.bipush 8, 2) := by decide +kernel
theorem dX6_bargain_78 : decode cX6_bargain 78 = .ok (.idiv, 1) := by decide +kernel
theorem dX6_bargain_79 : decode cX6_bargain 79 = .ok (.iconst 0, 1) := by decide +kernel
theorem dX6_bargain_80 : decode cX6_bargain 80 = .ok (.invokevirtual 80, 3) := by decide +kernel
theorem dX6_bargain_83 : decode cX6_bargain 83 = .ok (.invokevirtual 127, 3) := by decide +kernel
theorem dX6_bargain_86 : decode cX6_bargain 86 = .ok (.isub, 1) := by decide +kernel
theorem dX6_bargain_87 : decode cX6_bargain 87 = .ok (.istore 5, 2) := by decide +kernel
theorem dX6_bargain_89 : decode cX6_bargain 89 = .ok (.iload_n 2, 1) := by decide +kernel
theorem dX6_bargain_90 : decode cX6_bargain 90 = .ok (.ifCond .lt 12, 3) := by decide +kernel
theorem dX6_bargain_93 : decode cX6_bargain 93 = .ok (.iload 5, 2) := by decide +kernel
theorem dX6_bargain_95 : decode cX6_bargain 95 = .ok (.iload_n 3, 1) := by decide +kernel
theorem dX6_bargain_96 : decode cX6_bargain 96 = .ok (.if_icmp .gt 6, 3) := by decide +kernel
theorem dX6_bargain_99 : decode cX6_bargain 99 = .ok (.goto 9, 3) := by decide +kernel
theorem dX6_bargain_102 : decode cX6_bargain 102 = .ok (.iload 4, 2) := by decide +kernel
theorem dX6_bargain_104 : decode cX6_bargain 104 = .ok (.istore_n 2, 1) := by decide +kernel
theorem dX6_bargain_105 : decode cX6_bargain 105 = .ok (.iload 5, 2) := by decide +kernel
theorem dX6_bargain_107 : decode cX6_bargain 107 = .ok (.istore_n 3, 1) := by decide +kernel
theorem dX6_bargain_108 : decode cX6_bargain 108 = .ok (.iinc 4 1, 3) := by decide +kernel
theorem dX6_bargain_111 : decode cX6_bargain 111 = .ok (.goto (-104), 3) := by decide +kernel
theorem dX6_bargain_114 : decode cX6_bargain 114 = .ok (.aload_n 0, 1) := by decide +kernel
theorem dX6_bargain_115 : decode cX6_bargain 115 = .ok (.iload_n 2, 1) := by decide +kernel
theorem dX6_bargain_116 : decode cX6_bargain 116 = .ok (.ifCond .ge 7, 3) := by decide +kernel
theorem dX6_bargain_119 : decode cX6_bargain 119 = .ok (.iconst 1, 1) := by decide +kernel
theorem dX6_bargain_120 : decode cX6_bargain 120 = .ok (.goto 4, 3) := by decide +kernel
theorem dX6_bargain_123 : decode cX6_bargain 123 = .ok (.iconst 0, 1) := by decide +kernel
theorem dX6_bargain_124 : decode cX6_bargain 124 = .ok (.invokevirtual 86, 3) := by decide +kernel
theorem dX6_bargain_127 : decode cX6_bargain 127 = .ok (.ifCond .eq 7, 3) := by decide +kernel
theorem dX6_bargain_130 : decode cX6_bargain 130 = .ok (.iconst 0, 1) := by decide +kernel
theorem dX6_bargain_131 : decode cX6_bargain 131 = .ok (.goto 18, 3) := by decide +kernel
theorem dX6_bargain_134 : decode cX6_bargain 134 = .ok (.iload_n 1, 1) := by decide +kernel
theorem dX6_bargain_135 : decode cX6_bargain 135 = .ok (.ifCond .eq 10, 3) := by decide +kernel
theorem dX6_bargain_138 : decode cX6_bargain 138 = .ok (.iload_n 2, 1) := by decide +kernel
theorem dX6_bargain_139 : decode cX6_bargain 139 = .ok (.bipush 8, 2) := by decide +kernel
theorem dX6_bargain_141 : decode cX6_bargain 141 = .ok (.irem, 1) := by decide +kernel
theorem dX6_bargain_142 : decode cX6_bargain 142 = .ok (.goto 7, 3) := by decide +kernel
theorem dX6_bargain_145 : decode cX6_bargain 145 = .ok (.iload_n 2, 1) := by decide +kernel
theorem dX6_bargain_146 : decode cX6_bargain 146 = .ok (.bipush 8, 2) := by decide +kernel
theorem dX6_bargain_148 : decode cX6_bargain 148 = .ok (.idiv, 1) := by decide +kernel
theorem dX6_bargain_149 : decode cX6_bargain 149 = .ok (.ireturn, 1) := by decide +kernel
theorem dX6_wouldShame_0 : decode cX6_wouldShame 0 = .ok (.aload_n 0, 1) := by decide +kernel
theorem dX6_wouldShame_1 : decode cX6_wouldShame 1 = .ok (.aload_n 0, 1) := by decide +kernel
theorem dX6_wouldShame_2 : decode cX6_wouldShame 2 = .ok (.iload_n 1, 1) := by decide +kernel
theorem dX6_wouldShame_3 : decode cX6_wouldShame 3 = .ok (.invokevirtual 101, 3) := by decide +kernel
theorem dX6_wouldShame_6 : decode cX6_wouldShame 6 = .ok (.ifCond .eq 7, 3) := by decide +kernel
theorem dX6_wouldShame_9 : decode cX6_wouldShame 9 = .ok (.iconst 0, 1) := by decide +kernel
theorem dX6_wouldShame_10 : decode cX6_wouldShame 10 = .ok (.goto 4, 3) := by decide +kernel
theorem dX6_wouldShame_13 : decode cX6_wouldShame 13 = .ok (.iconst 1, 1) := by decide +kernel
theorem dX6_wouldShame_14 : decode cX6_wouldShame 14 = .ok (.invokevirtual 86, 3) := by decide +kernel
theorem dX6_wouldShame_17 : decode cX6_wouldShame 17 = .ok (.ifCond .eq 5, 3) := by decide +kernel
theorem dX6_wouldShame_20 : decode cX6_wouldShame 20 = .ok (.iconst 0, 1) := by decide +kernel
theorem dX6_wouldShame_21 : decode cX6_wouldShame 21 = .ok (.ireturn, 1) := by decide +kernel
theorem dX6_wouldShame_22 : decode cX6_wouldShame 22 = .ok (.aload_n 0, 1) := by decide +kernel
theorem dX6_wouldShame_23 : decode cX6_wouldShame 23 = .ok (.iload_n 1, 1) := by decide +kernel
theorem dX6_wouldShame_24 : decode cX6_wouldShame 24 = .ok (.iconst 1, 1) := by decide +kernel
theorem dX6_wouldShame_25 : decode cX6_wouldShame 25 = .ok (.invokevirtual 65, 3) := by decide +kernel
theorem dX6_wouldShame_28 : decode cX6_wouldShame 28 = .ok (.istore_n 2, 1) := by decide +kernel
theorem dX6_wouldShame_29 : decode cX6_wouldShame 29 = .ok (.iconst 0, 1) := by decide +kernel
theorem dX6_wouldShame_30 : decode cX6_wouldShame 30 = .ok (.istore_n 3, 1) := by decide +kernel
theorem dX6_wouldShame_31 : decode cX6_wouldShame 31 = .ok (.iload_n 3, 1) := by decide +kernel
theorem dX6_wouldShame_32 : decode cX6_wouldShame 32 = .ok (.aload_n 0, 1) := by decide +kernel
theorem dX6_wouldShame_33 : decode cX6_wouldShame 33 = .ok (.getfield 7, 3) := by decide +kernel
theorem dX6_wouldShame_36 : decode cX6_wouldShame 36 = .ok (.iconst 1, 1) := by decide +kernel
theorem dX6_wouldShame_37 : decode cX6_wouldShame 37 = .ok (.iaload, 1) := by decide +kernel
theorem dX6_wouldShame_38 : decode cX6_wouldShame 38 = .ok (.if_icmp .ge 64, 3) := by decide +kernel
theorem dX6_wouldShame_41 : decode cX6_wouldShame 41 = .ok (.iconst 0, 1) := by decide +kernel
theorem dX6_wouldShame_42 : decode cX6_wouldShame 42 = .ok (.istore 4, 2) := by decide +kernel
theorem dX6_wouldShame_44 : decode cX6_wouldShame 44 = .ok (.iload 4, 2) := by decide +kernel
theorem dX6_wouldShame_46 : decode cX6_wouldShame 46 = .ok (.aload_n 0, 1) := by decide +kernel
theorem dX6_wouldShame_47 : decode cX6_wouldShame 47 = .ok (.iload_n 3, 1) := by decide +kernel
theorem dX6_wouldShame_48 : decode cX6_wouldShame 48 = .ok (.iconst 1, 1) := by decide +kernel
theorem dX6_wouldShame_49 : decode cX6_wouldShame 49 = .ok (.invokevirtual 80, 3) := by decide +kernel
theorem dX6_wouldShame_52 : decode cX6_wouldShame 52 = .ok (.if_icmp .ge 44, 3) := by decide +kernel
theorem dX6_wouldShame_55 : decode cX6_wouldShame 55 = .ok (.aload_n 0, 1) := by decide +kernel
theorem dX6_wouldShame_56 : decode cX6_wouldShame 56 = .ok (.iload_n 3, 1) := by decide +kernel
theorem dX6_wouldShame_57 : decode cX6_wouldShame 57 = .ok (.iconst 0, 1) := by decide +kernel
theorem dX6_wouldShame_58 : decode cX6_wouldShame 58 = .ok (.invokevirtual 80, 3) := by decide +kernel
theorem dX6_wouldShame_61 : decode cX6_wouldShame 61 = .ok (.iload_n 1, 1) := by decide +kernel
theorem dX6_wouldShame_62 : decode cX6_wouldShame 62 = .ok (.if_icmp .ne 34, 3) := by decide +kernel
theorem dX6_wouldShame_65 : decode cX6_wouldShame 65 = .ok (.iload_n 2, 1) := by decide +kernel
theorem dX6_wouldShame_66 : decode cX6_wouldShame 66 = .ok (.aload_n 0, 1) := by decide +kernel
theorem dX6_wouldShame_67 : decode cX6_wouldShame 67 = .ok (.iload_n 3, 1) := by decide +kernel
theorem dX6_wouldShame_68 : decode cX6_wouldShame 68 = .ok (.iload 4, 2) := by decide +kernel
theorem dX6_wouldShame_70 : decode cX6_wouldShame 70 = .ok (.invokevirtual 111, 3) := by decide +kernel
theorem dX6_wouldShame_73 : decode cX6_wouldShame 73 = .ok (.iconst 2, 1) := by decide +kernel
theorem dX6_wouldShame_74 : decode cX6_wouldShame 74 = .ok (.if_icmp .ne 13, 3) := by decide +kernel
theorem dX6_wouldShame_77 : decode cX6_wouldShame 77 = .ok (.aload_n 0, 1) := by decide +kernel
theorem dX6_wouldShame_78 : decode cX6_wouldShame 78 = .ok (.iload_n 3, 1) := by decide +kernel
theorem dX6_wouldShame_79 : decode cX6_wouldShame 79 = .ok (.iload 4, 2) := by decide +kernel
theorem dX6_wouldShame_81 : decode cX6_wouldShame 81 = .ok (.invokevirtual 130, 3) := by decide +kernel
theorem dX6_wouldShame_84 : decode cX6_wouldShame 84 = .ok (.goto 4, 3) := by decide +kernel
theorem dX6_wouldShame_87 : decode cX6_wouldShame 87 = .ok (.iconst 0, 1) := by decide +kernel
theorem dX6_wouldShame_88 : decode cX6_wouldShame 88 = .ok (.iadd, 1) := by decide +kernel
theorem dX6_wouldShame_89 : decode cX6_wouldShame 89 = .ok (.istore_n 2, 1) := by decide +kernel
theorem dX6_wouldShame_90 : decode cX6_wouldShame 90 = .ok (.iinc 4 1, 3) := by decide +kernel
theorem dX6_wouldShame_93 : decode cX6_wouldShame 93 = .ok (.goto (-49), 3) := by decide +kernel
theorem dX6_wouldShame_96 : decode cX6_wouldShame 96 = .ok (.iinc 3 1, 3) := by decide +kernel
theorem dX6_wouldShame_99 : decode cX6_wouldShame 99 = .ok (.goto (-68), 3) := by decide +kernel
theorem dX6_wouldShame_102 : decode cX6_wouldShame 102 = .ok (.iload_n 2, 1) := by decide +kernel
theorem dX6_wouldShame_103 : decode cX6_wouldShame 103 = .ok (.bipush 99, 2) := by decide +kernel
theorem dX6_wouldShame_105 : decode cX6_wouldShame 105 = .ok (.invokestatic 69, 3) := by decide +kernel
theorem dX6_wouldShame_108 : decode cX6_wouldShame 108 = .ok (.ireturn, 1) := by decide +kernel
theorem dX6_wouldLaugh_0 : decode cX6_wouldLaugh 0 = .ok (.aload_n 0, 1) := by decide +kernel
theorem dX6_wouldLaugh_1 : decode cX6_wouldLaugh 1 = .ok (.iconst 0, 1) := by decide +kernel
theorem dX6_wouldLaugh_2 : decode cX6_wouldLaugh 2 = .ok (.putfield 36, 3) := by decide +kernel
theorem dX6_wouldLaugh_5 : decode cX6_wouldLaugh 5 = .ok (.iconst 0, 1) := by decide +kernel
theorem dX6_wouldLaugh_6 : decode cX6_wouldLaugh 6 = .ok (.istore_n 2, 1) := by decide +kernel
theorem dX6_wouldLaugh_7 : decode cX6_wouldLaugh 7 = .ok (.iconst 0, 1) := by decide +kernel
theorem dX6_wouldLaugh_8 : decode cX6_wouldLaugh 8 = .ok (.istore_n 3, 1) := by decide +kernel
theorem dX6_wouldLaugh_9 : decode cX6_wouldLaugh 9 = .ok (.iload_n 3, 1) := by decide +kernel
theorem dX6_wouldLaugh_10 : decode cX6_wouldLaugh 10 = .ok (.aload_n 0, 1) := by decide +kernel
theorem dX6_wouldLaugh_11 : decode cX6_wouldLaugh 11 = .ok (.getfield 7, 3) := by decide +kernel
theorem dX6_wouldLaugh_14 : decode cX6_wouldLaugh 14 = .ok (.iconst 1, 1) := by decide +kernel
theorem dX6_wouldLaugh_15 : decode cX6_wouldLaugh 15 = .ok (.iaload, 1) := by decide +kernel
theorem dX6_wouldLaugh_16 : decode cX6_wouldLaugh 16 = .ok (.if_icmp .ge 54, 3) := by decide +kernel
theorem dX6_wouldLaugh_19 : decode cX6_wouldLaugh 19 = .ok (.iconst 0, 1) := by decide +kernel
theorem dX6_wouldLaugh_20 : decode cX6_wouldLaugh 20 = .ok (.istore 4, 2) := by decide +kernel
theorem dX6_wouldLaugh_22 : decode cX6_wouldLaugh 22 = .ok (.iload 4, 2) := by decide +kernel
theorem dX6_wouldLaugh_24 : decode cX6_wouldLaugh 24 = .ok (.aload_n 0, 1) := by decide +kernel
theorem dX6_wouldLaugh_25 : decode cX6_wouldLaugh 25 = .ok (.iload_n 3, 1) := by decide +kernel
theorem dX6_wouldLaugh_26 : decode cX6_wouldLaugh 26 = .ok (.iconst 1, 1) := by decide +kernel
theorem dX6_wouldLaugh_27 : decode cX6_wouldLaugh 27 = .ok (.invokevirtual 80, 3) := by decide +kernel
theorem dX6_wouldLaugh_30 : decode cX6_wouldLaugh 30 = .ok (.if_icmp .ge 34, 3) := by decide +kernel
theorem dX6_wouldLaugh_33 : decode cX6_wouldLaugh 33 = .ok (.iload_n 2, 1) := by decide +kernel
theorem dX6_wouldLaugh_34 : decode cX6_wouldLaugh 34 = .ok (.aload_n 0, 1) := by decide +kernel
theorem dX6_wouldLaugh_35 : decode cX6_wouldLaugh 35 = .ok (.iload_n 3, 1) := by decide +kernel
theorem dX6_wouldLaugh_36 : decode cX6_wouldLaugh 36 = .ok (.iload 4, 2) := by decide +kernel
theorem dX6_wouldLaugh_38 : decode cX6_wouldLaugh 38 = .ok (.invokevirtual 111, 3) := by decide +kernel
theorem dX6_wouldLaugh_41 : decode cX6_wouldLaugh 41 = .ok (.iconst 2, 1) := by decide +kernel
theorem dX6_wouldLaugh_42 : decode cX6_wouldLaugh 42 = .ok (.if_icmp .ne 13, 3) := by decide +kernel
theorem dX6_wouldLaugh_45 : decode cX6_wouldLaugh 45 = .ok (.aload_n 0, 1) := by decide +kernel
theorem dX6_wouldLaugh_46 : decode cX6_wouldLaugh 46 = .ok (.iload_n 3, 1) := by decide +kernel
theorem dX6_wouldLaugh_47 : decode cX6_wouldLaugh 47 = .ok (.iload 4, 2) := by decide +kernel
theorem dX6_wouldLaugh_49 : decode cX6_wouldLaugh 49 = .ok (.invokevirtual 146, 3) := by decide +kernel
theorem dX6_wouldLaugh_52 : decode cX6_wouldLaugh 52 = .ok (.goto 4, 3) := by decide +kernel
theorem dX6_wouldLaugh_55 : decode cX6_wouldLaugh 55 = .ok (.iconst 0, 1) := by decide +kernel
theorem dX6_wouldLaugh_56 : decode cX6_wouldLaugh 56 = .ok (.iadd, 1) := by decide +kernel
theorem dX6_wouldLaugh_57 : decode cX6_wouldLaugh 57 = .ok (.istore_n 2, 1) := by decide +kernel
theorem dX6_wouldLaugh_58 : decode cX6_wouldLaugh 58 = .ok (.iinc 4 1, 3) := by decide +kernel
theorem dX6_wouldLaugh_61 : decode cX6_wouldLaugh 61 = .ok (.goto (-39), 3) := by decide +kernel
theorem dX6_wouldLaugh_64 : decode cX6_wouldLaugh 64 = .ok (.iinc 3 1, 3) := by decide +kernel
theorem dX6_wouldLaugh_67 : decode cX6_wouldLaugh 67 = .ok (.goto (-58), 3) := by decide +kernel
theorem dX6_wouldLaugh_70 : decode cX6_wouldLaugh 70 = .ok (.iload_n 2, 1) := by decide +kernel
theorem dX6_wouldLaugh_71 : decode cX6_wouldLaugh 71 = .ok (.ireturn, 1) := by decide +kernel
theorem dX6_far_0 : decode cX6_far 0 = .ok (.iconst 0, 1) := by decide +kernel
theorem dX6_far_1 : decode cX6_far 1 = .ok (.istore_n 3, 1) := by decide +kernel
theorem dX6_far_2 : decode cX6_far 2 = .ok (.iconst 0, 1) := by decide +kernel
theorem dX6_far_3 : decode cX6_far 3 = .ok (.istore 4, 2) := by decide +kernel
theorem dX6_far_5 : decode cX6_far 5 = .ok (.iload 4, 2) := by decide +kernel
theorem dX6_far_7 : decode cX6_far 7 = .ok (.bipush 8, 2) := by decide +kernel
theorem dX6_far_9 : decode cX6_far 9 = .ok (.if_icmp .ge 39, 3) := by decide +kernel
theorem dX6_far_12 : decode cX6_far 12 = .ok (.iload_n 3, 1) := by decide +kernel
theorem dX6_far_13 : decode cX6_far 13 = .ok (.aload_n 0, 1) := by decide +kernel
theorem dX6_far_14 : decode cX6_far 14 = .ok (.iload_n 1, 1) := by decide +kernel
theorem dX6_far_15 : decode cX6_far 15 = .ok (.bipush 10, 2) := by decide +kernel
theorem dX6_far_17 : decode cX6_far 17 = .ok (.iload 4, 2) := by decide +kernel
theorem dX6_far_19 : decode cX6_far 19 = .ok (.iadd, 1) := by decide +kernel
theorem dX6_far_20 : decode cX6_far 20 = .ok (.invokevirtual 80, 3) := by decide +kernel
theorem dX6_far_23 : decode cX6_far 23 = .ok (.aload_n 0, 1) := by decide +kernel
theorem dX6_far_24 : decode cX6_far 24 = .ok (.iload_n 2, 1) := by decide +kernel
theorem dX6_far_25 : decode cX6_far 25 = .ok (.iconst 2, 1) := by decide +kernel
theorem dX6_far_26 : decode cX6_far 26 = .ok (.iload 4, 2) := by decide +kernel
theorem dX6_far_28 : decode cX6_far 28 = .ok (.iadd, 1) := by decide +kernel
theorem dX6_far_29 : decode cX6_far 29 = .ok (.invokevirtual 80, 3) := by decide +kernel
theorem dX6_far_32 : decode cX6_far 32 = .ok (.if_icmp .ne 7, 3) := by decide +kernel
theorem dX6_far_35 : decode cX6_far 35 = .ok (.iconst 0, 1) := by decide +kernel
theorem dX6_far_36 : decode cX6_far 36 = .ok (.goto 4, 3) := by decide +kernel
theorem dX6_far_39 : decode cX6_far 39 = .ok (.iconst 1, 1) := by decide +kernel
theorem dX6_far_40 : decode cX6_far 40 = .ok (.iadd, 1) := by decide +kernel
theorem dX6_far_41 : decode cX6_far 41 = .ok (.istore_n 3, 1) := by decide +kernel
theorem dX6_far_42 : decode cX6_far 42 = .ok (.iinc 4 1, 3) := by decide +kernel
theorem dX6_far_45 : decode cX6_far 45 = .ok (.goto (-40), 3) := by decide +kernel
theorem dX6_far_48 : decode cX6_far 48 = .ok (.iload_n 3, 1) := by decide +kernel
theorem dX6_far_49 : decode cX6_far 49 = .ok (.ireturn, 1) := by decide +kernel
theorem dX6_nearest_0 : decode cX6_nearest 0 = .ok (.aload_n 0, 1) := by decide +kernel
theorem dX6_nearest_1 : decode cX6_nearest 1 = .ok (.aload_n 0, 1) := by decide +kernel
theorem dX6_nearest_2 : decode cX6_nearest 2 = .ok (.iload_n 1, 1) := by decide +kernel
theorem dX6_nearest_3 : decode cX6_nearest 3 = .ok (.invokevirtual 76, 3) := by decide +kernel
theorem dX6_nearest_6 : decode cX6_nearest 6 = .ok (.ifCond .eq 7, 3) := by decide +kernel
theorem dX6_nearest_9 : decode cX6_nearest 9 = .ok (.iconst 0, 1) := by decide +kernel
theorem dX6_nearest_10 : decode cX6_nearest 10 = .ok (.goto 4, 3) := by decide +kernel
theorem dX6_nearest_13 : decode cX6_nearest 13 = .ok (.iconst 1, 1) := by decide +kernel
theorem dX6_nearest_14 : decode cX6_nearest 14 = .ok (.invokevirtual 86, 3) := by decide +kernel
theorem dX6_nearest_17 : decode cX6_nearest 17 = .ok (.ifCond .eq 5, 3) := by decide +kernel
theorem dX6_nearest_20 : decode cX6_nearest 20 = .ok (.iconst 0, 1) := by decide +kernel
theorem dX6_nearest_21 : decode cX6_nearest 21 = .ok (.ireturn, 1) := by decide +kernel
theorem dX6_nearest_22 : decode cX6_nearest 22 = .ok (.iconst 0, 1) := by decide +kernel
theorem dX6_nearest_23 : decode cX6_nearest 23 = .ok (.istore_n 2, 1) := by decide +kernel
theorem dX6_nearest_24 : decode cX6_nearest 24 = .ok (.iconst 1, 1) := by decide +kernel
theorem dX6_nearest_25 : decode cX6_nearest 25 = .ok (.istore_n 3, 1) := by decide +kernel
theorem dX6_nearest_26 : decode cX6_nearest 26 = .ok (.iload_n 3, 1) := by decide +kernel
theorem dX6_nearest_27 : decode cX6_nearest 27 = .ok (.aload_n 0, 1) := by decide +kernel
theorem dX6_nearest_28 : decode cX6_nearest 28 = .ok (.getfield 7, 3) := by decide +kernel
theorem dX6_nearest_31 : decode cX6_nearest 31 = .ok (.iconst 1, 1) := by decide +kernel
theorem dX6_nearest_32 : decode cX6_nearest 32 = .ok (.iaload, 1) := by decide +kernel
theorem dX6_nearest_33 : decode cX6_nearest 33 = .ok (.if_icmp .ge 26, 3) := by decide +kernel
theorem dX6_nearest_36 : decode cX6_nearest 36 = .ok (.aload_n 0, 1) := by decide +kernel
theorem dX6_nearest_37 : decode cX6_nearest 37 = .ok (.iload_n 1, 1) := by decide +kernel
theorem dX6_nearest_38 : decode cX6_nearest 38 = .ok (.iload_n 3, 1) := by decide +kernel
theorem dX6_nearest_39 : decode cX6_nearest 39 = .ok (.invokevirtual 164, 3) := by decide +kernel
theorem dX6_nearest_42 : decode cX6_nearest 42 = .ok (.aload_n 0, 1) := by decide +kernel
theorem dX6_nearest_43 : decode cX6_nearest 43 = .ok (.iload_n 1, 1) := by decide +kernel
theorem dX6_nearest_44 : decode cX6_nearest 44 = .ok (.iload_n 2, 1) := by decide +kernel
theorem dX6_nearest_45 : decode cX6_nearest 45 = .ok (.invokevirtual 164, 3) := by decide +kernel
theorem dX6_nearest_48 : decode cX6_nearest 48 = .ok (.if_icmp .ge 5, 3) := by decide +kernel
theorem dX6_nearest_51 : decode cX6_nearest 51 = .ok (.iload_n 3, 1) := by decide +kernel
theorem dX6_nearest_52 : decode cX6_nearest 52 = .ok (.istore_n 2, 1) := by decide +kernel
theorem dX6_nearest_53 : decode cX6_nearest 53 = .ok (.iinc 3 1, 3) := by decide +kernel
theorem dX6_nearest_56 : decode cX6_nearest 56 = .ok (.goto (-30), 3) := by decide +kernel
theorem dX6_nearest_59 : decode cX6_nearest 59 = .ok (.iload_n 2, 1) := by decide +kernel
theorem dX6_nearest_60 : decode cX6_nearest 60 = .ok (.ireturn, 1) := by decide +kernel
theorem dX6_calmIn_0 : decode cX6_calmIn 0 = .ok (.aload_n 0, 1) := by decide +kernel
theorem dX6_calmIn_1 : decode cX6_calmIn 1 = .ok (.aload_n 0, 1) := by decide +kernel
theorem dX6_calmIn_2 : decode cX6_calmIn 2 = .ok (.iload_n 1, 1) := by decide +kernel
theorem dX6_calmIn_3 : decode cX6_calmIn 3 = .ok (.invokevirtual 101, 3) := by decide +kernel
theorem dX6_calmIn_6 : decode cX6_calmIn 6 = .ok (.ifCond .eq 7, 3) := by decide +kernel
theorem dX6_calmIn_9 : decode cX6_calmIn 9 = .ok (.iconst 0, 1) := by decide +kernel
theorem dX6_calmIn_10 : decode cX6_calmIn 10 = .ok (.goto 4, 3) := by decide +kernel
theorem dX6_calmIn_13 : decode cX6_calmIn 13 = .ok (.iconst 1, 1) := by decide +kernel
theorem dX6_calmIn_14 : decode cX6_calmIn 14 = .ok (.invokevirtual 86, 3) := by decide +kernel
theorem dX6_calmIn_17 : decode cX6_calmIn 17 = .ok (.ifCond .ne 11, 3) := by decide +kernel
theorem dX6_calmIn_20 : decode cX6_calmIn 20 = .ok (.aload_n 0, 1) := by decide +kernel
theorem dX6_calmIn_21 : decode cX6_calmIn 21 = .ok (.iload_n 1, 1) := by decide +kernel
theorem dX6_calmIn_22 : decode cX6_calmIn 22 = .ok (.invokevirtual 124, 3) := by decide +kernel
theorem dX6_calmIn_25 : decode cX6_calmIn 25 = .ok (.ifCond .ne 7, 3) := by decide +kernel
theorem dX6_calmIn_28 : decode cX6_calmIn 28 = .ok (.iconst 0, 1) := by decide +kernel
theorem dX6_calmIn_29 : decode cX6_calmIn 29 = .ok (.goto 12, 3) := by decide +kernel
theorem dX6_calmIn_32 : decode cX6_calmIn 32 = .ok (.aload_n 0, 1) := by decide +kernel
theorem dX6_calmIn_33 : decode cX6_calmIn 33 = .ok (.iload_n 1, 1) := by decide +kernel
theorem dX6_calmIn_34 : decode cX6_calmIn 34 = .ok (.iconst 1, 1) := by decide +kernel
theorem dX6_calmIn_35 : decode cX6_calmIn 35 = .ok (.invokevirtual 65, 3) := by decide +kernel
theorem dX6_calmIn_38 : decode cX6_calmIn 38 = .ok (.bipush 20, 2) := by decide +kernel
theorem dX6_calmIn_40 : decode cX6_calmIn 40 = .ok (.isub, 1) := by decide +kernel
theorem dX6_calmIn_41 : decode cX6_calmIn 41 = .ok (.ireturn, 1) := by decide +kernel
theorem dX6_isMoreAshamed_0 : decode cX6_isMoreAshamed 0 = .ok (.aload_n 0, 1) := by decide +kernel
theorem dX6_isMoreAshamed_1 : decode cX6_isMoreAshamed 1 = .ok (.iload_n 1, 1) := by decide +kernel
theorem dX6_isMoreAshamed_2 : decode cX6_isMoreAshamed 2 = .ok (.iconst 1, 1) := by decide +kernel
theorem dX6_isMoreAshamed_3 : decode cX6_isMoreAshamed 3 = .ok (.invokevirtual 65, 3) := by decide +kernel
theorem dX6_isMoreAshamed_6 : decode cX6_isMoreAshamed 6 = .ok (.aload_n 0, 1) := by decide +kernel
theorem dX6_isMoreAshamed_7 : decode cX6_isMoreAshamed 7 = .ok (.iload_n 2, 1) := by decide +kernel
theorem dX6_isMoreAshamed_8 : decode cX6_isMoreAshamed 8 = .ok (.iconst 1, 1) := by decide +kernel
theorem dX6_isMoreAshamed_9 : decode cX6_isMoreAshamed 9 = .ok (.invokevirtual 65, 3) := by decide +kernel
theorem dX6_isMoreAshamed_12 : decode cX6_isMoreAshamed 12 = .ok (.isub, 1) := by decide +kernel
theorem dX6_isMoreAshamed_13 : decode cX6_isMoreAshamed 13 = .ok (.istore_n 3, 1) := by decide +kernel
theorem dX6_isMoreAshamed_14 : decode cX6_isMoreAshamed 14 = .ok (.iload_n 3, 1) := by decide +kernel
theorem dX6_isMoreAshamed_15 : decode cX6_isMoreAshamed 15 = .ok (.ifCond .eq 13, 3) := by decide +kernel
theorem dX6_isMoreAshamed_18 : decode cX6_isMoreAshamed 18 = .ok (.iload_n 3, 1) := by decide +kernel
theorem dX6_isMoreAshamed_19 : decode cX6_isMoreAshamed 19 = .ok (.ifCond .le 7, 3) := by decide +kernel
theorem dX6_isMoreAshamed_22 : decode cX6_isMoreAshamed 22 = .ok (.iconst 1, 1) := by decide +kernel
theorem dX6_isMoreAshamed_23 : decode cX6_isMoreAshamed 23 = .ok (.goto 4, 3) := by decide +kernel
theorem dX6_isMoreAshamed_26 : decode cX6_isMoreAshamed 26 = .ok (.iconst 0, 1) := by decide +kernel
theorem dX6_isMoreAshamed_27 : decode cX6_isMoreAshamed 27 = .ok (.ireturn, 1) := by decide +kernel
theorem dX6_isMoreAshamed_28 : decode cX6_isMoreAshamed 28 = .ok (.aload_n 0, 1) := by decide +kernel
theorem dX6_isMoreAshamed_29 : decode cX6_isMoreAshamed 29 = .ok (.iload_n 1, 1) := by decide +kernel
theorem dX6_isMoreAshamed_30 : decode cX6_isMoreAshamed 30 = .ok (.iconst 0, 1) := by decide +kernel
theorem dX6_isMoreAshamed_31 : decode cX6_isMoreAshamed 31 = .ok (.invokevirtual 65, 3) := by decide +kernel
theorem dX6_isMoreAshamed_34 : decode cX6_isMoreAshamed 34 = .ok (.aload_n 0, 1) := by decide +kernel
theorem dX6_isMoreAshamed_35 : decode cX6_isMoreAshamed 35 = .ok (.iload_n 2, 1) := by decide +kernel
theorem dX6_isMoreAshamed_36 : decode cX6_isMoreAshamed 36 = .ok (.iconst 0, 1) := by decide +kernel
theorem dX6_isMoreAshamed_37 : decode cX6_isMoreAshamed 37 = .ok (.invokevirtual 65, 3) := by decide +kernel
theorem dX6_isMoreAshamed_40 : decode cX6_isMoreAshamed 40 = .ok (.isub, 1) := by decide +kernel
theorem dX6_isMoreAshamed_41 : decode cX6_isMoreAshamed 41 = .ok (.istore 4, 2) := by decide +kernel
theorem dX6_isMoreAshamed_43 : decode cX6_isMoreAshamed 43 = .ok (.iload 4, 2) := by decide +kernel
theorem dX6_isMoreAshamed_45 : decode cX6_isMoreAshamed 45 = .ok (.ifCond .lt 13, 3) := by decide +kernel
theorem dX6_isMoreAshamed_48 : decode cX6_isMoreAshamed 48 = .ok (.iload 4, 2) := by decide +kernel
theorem dX6_isMoreAshamed_50 : decode cX6_isMoreAshamed 50 = .ok (.ifCond .ne 12, 3) := by decide +kernel
theorem dX6_isMoreAshamed_53 : decode cX6_isMoreAshamed 53 = .ok (.iload_n 1, 1) := by decide +kernel
theorem dX6_isMoreAshamed_54 : decode cX6_isMoreAshamed 54 = .ok (.iload_n 2, 1) := by decide +kernel
theorem dX6_isMoreAshamed_55 : decode cX6_isMoreAshamed 55 = .ok (.if_icmp .ge 7, 3) := by decide +kernel
theorem dX6_isMoreAshamed_58 : decode cX6_isMoreAshamed 58 = .ok (.iconst 1, 1) := by decide +kernel
theorem dX6_isMoreAshamed_59 : decode cX6_isMoreAshamed 59 = .ok (.goto 4, 3) := by decide +kernel
theorem dX6_isMoreAshamed_62 : decode cX6_isMoreAshamed 62 = .ok (.iconst 0, 1) := by decide +kernel
theorem dX6_isMoreAshamed_63 : decode cX6_isMoreAshamed 63 = .ok (.ireturn, 1) := by decide +kernel
theorem dX6_ashamed_0 : decode cX6_ashamed 0 = .ok (.iconst 0, 1) := by decide +kernel
theorem dX6_ashamed_1 : decode cX6_ashamed 1 = .ok (.istore_n 2, 1) := by decide +kernel
theorem dX6_ashamed_2 : decode cX6_ashamed 2 = .ok (.iload_n 2, 1) := by decide +kernel
theorem dX6_ashamed_3 : decode cX6_ashamed 3 = .ok (.aload_n 0, 1) := by decide +kernel
theorem dX6_ashamed_4 : decode cX6_ashamed 4 = .ok (.getfield 7, 3) := by decide +kernel
theorem dX6_ashamed_7 : decode cX6_ashamed 7 = .ok (.iconst 0, 1) := by decide +kernel
theorem dX6_ashamed_8 : decode cX6_ashamed 8 = .ok (.iaload, 1) := by decide +kernel
theorem dX6_ashamed_9 : decode cX6_ashamed 9 = .ok (.if_icmp .ge 64, 3) := by decide +kernel
theorem dX6_ashamed_12 : decode cX6_ashamed 12 = .ok (.iconst 0, 1) := by decide +kernel
theorem dX6_ashamed_13 : decode cX6_ashamed 13 = .ok (.istore_n 3, 1) := by decide +kernel
theorem dX6_ashamed_14 : decode cX6_ashamed 14 = .ok (.iconst 0, 1) := by decide +kernel
theorem dX6_ashamed_15 : decode cX6_ashamed 15 = .ok (.istore 4, 2) := by decide +kernel
theorem dX6_ashamed_17 : decode cX6_ashamed 17 = .ok (.iload 4, 2) := by decide +kernel
theorem dX6_ashamed_19 : decode cX6_ashamed 19 = .ok (.aload_n 0, 1) := by decide +kernel
theorem dX6_ashamed_20 : decode cX6_ashamed 20 = .ok (.getfield 7, 3) := by decide +kernel
theorem dX6_ashamed_23 : decode cX6_ashamed 23 = .ok (.iconst 0, 1) := by decide +kernel
theorem dX6_ashamed_24 : decode cX6_ashamed 24 = .ok (.iaload, 1) := by decide +kernel
theorem dX6_ashamed_25 : decode cX6_ashamed 25 = .ok (.if_icmp .ge 27, 3) := by decide +kernel
theorem dX6_ashamed_28 : decode cX6_ashamed 28 = .ok (.iload_n 3, 1) := by decide +kernel
theorem dX6_ashamed_29 : decode cX6_ashamed 29 = .ok (.aload_n 0, 1) := by decide +kernel
theorem dX6_ashamed_30 : decode cX6_ashamed 30 = .ok (.iload 4, 2) := by decide +kernel
theorem dX6_ashamed_32 : decode cX6_ashamed 32 = .ok (.iload_n 2, 1) := by decide +kernel
theorem dX6_ashamed_33 : decode cX6_ashamed 33 = .ok (.invokevirtual 167, 3) := by decide +kernel
theorem dX6_ashamed_36 : decode cX6_ashamed 36 = .ok (.ifCond .eq 7, 3) := by decide +kernel
theorem dX6_ashamed_39 : decode cX6_ashamed 39 = .ok (.iconst 1, 1) := by decide +kernel
theorem dX6_ashamed_40 : decode cX6_ashamed 40 = .ok (.goto 4, 3) := by decide +kernel
theorem dX6_ashamed_43 : decode cX6_ashamed 43 = .ok (.iconst 0, 1) := by decide +kernel
theorem dX6_ashamed_44 : decode cX6_ashamed 44 = .ok (.iadd, 1) := by decide +kernel
theorem dX6_ashamed_45 : decode cX6_ashamed 45 = .ok (.istore_n 3, 1) := by decide +kernel
theorem dX6_ashamed_46 : decode cX6_ashamed 46 = .ok (.iinc 4 1, 3) := by decide +kernel
theorem dX6_ashamed_49 : decode cX6_ashamed 49 = .ok (.goto (-32), 3) := by decide +kernel
theorem dX6_ashamed_52 : decode cX6_ashamed 52 = .ok (.iload_n 3, 1) := by decide +kernel
theorem dX6_ashamed_53 : decode cX6_ashamed 53 = .ok (.iload_n 1, 1) := by decide +kernel
theorem dX6_ashamed_54 : decode cX6_ashamed 54 = .ok (.if_icmp .eq 6, 3) := by decide +kernel
theorem dX6_ashamed_57 : decode cX6_ashamed 57 = .ok (.goto 10, 3) := by decide +kernel
theorem dX6_ashamed_60 : decode cX6_ashamed 60 = .ok (.aload_n 0, 1) := by decide +kernel
theorem dX6_ashamed_61 : decode cX6_ashamed 61 = .ok (.iconst 0, 1) := by decide +kernel
theorem dX6_ashamed_62 : decode cX6_ashamed 62 = .ok (.putfield 36, 3) := by decide +kernel
theorem dX6_ashamed_65 : decode cX6_ashamed 65 = .ok (.iload_n 2, 1) := by decide +kernel
theorem dX6_ashamed_66 : decode cX6_ashamed 66 = .ok (.ireturn, 1) := by decide +kernel
theorem dX6_ashamed_67 : decode cX6_ashamed 67 = .ok (.iinc 2 1, 3) := by decide +kernel
theorem dX6_ashamed_70 : decode cX6_ashamed 70 = .ok (.goto (-68), 3) := by decide +kernel
theorem dX6_ashamed_73 : decode cX6_ashamed 73 = .ok (.aload_n 0, 1) := by decide +kernel
theorem dX6_ashamed_74 : decode cX6_ashamed 74 = .ok (.iconst 1, 1) := by decide +kernel
theorem dX6_ashamed_75 : decode cX6_ashamed 75 = .ok (.putfield 36, 3) := by decide +kernel
theorem dX6_ashamed_78 : decode cX6_ashamed 78 = .ok (.iconst 0, 1) := by decide +kernel
theorem dX6_ashamed_79 : decode cX6_ashamed 79 = .ok (.ireturn, 1) := by decide +kernel
theorem dX6_isWorse_0 : decode cX6_isWorse 0 = .ok (.aload_n 0, 1) := by decide +kernel
theorem dX6_isWorse_1 : decode cX6_isWorse 1 = .ok (.iload_n 1, 1) := by decide +kernel
theorem dX6_isWorse_2 : decode cX6_isWorse 2 = .ok (.invokevirtual 152, 3) := by decide +kernel
theorem dX6_isWorse_5 : decode cX6_isWorse 5 = .ok (.aload_n 0, 1) := by decide +kernel
theorem dX6_isWorse_6 : decode cX6_isWorse 6 = .ok (.iload_n 2, 1) := by decide +kernel
theorem dX6_isWorse_7 : decode cX6_isWorse 7 = .ok (.invokevirtual 152, 3) := by decide +kernel
theorem dX6_isWorse_10 : decode cX6_isWorse 10 = .ok (.isub, 1) := by decide +kernel
theorem dX6_isWorse_11 : decode cX6_isWorse 11 = .ok (.istore_n 3, 1) := by decide +kernel
theorem dX6_isWorse_12 : decode cX6_isWorse 12 = .ok (.iload_n 3, 1) := by decide +kernel
theorem dX6_isWorse_13 : decode cX6_isWorse 13 = .ok (.ifCond .eq 13, 3) := by decide +kernel
theorem dX6_isWorse_16 : decode cX6_isWorse 16 = .ok (.iload_n 3, 1) := by decide +kernel
theorem dX6_isWorse_17 : decode cX6_isWorse 17 = .ok (.ifCond .le 7, 3) := by decide +kernel
theorem dX6_isWorse_20 : decode cX6_isWorse 20 = .ok (.iconst 1, 1) := by decide +kernel
theorem dX6_isWorse_21 : decode cX6_isWorse 21 = .ok (.goto 4, 3) := by decide +kernel
theorem dX6_isWorse_24 : decode cX6_isWorse 24 = .ok (.iconst 0, 1) := by decide +kernel
theorem dX6_isWorse_25 : decode cX6_isWorse 25 = .ok (.ireturn, 1) := by decide +kernel
theorem dX6_isWorse_26 : decode cX6_isWorse 26 = .ok (.aload_n 0, 1) := by decide +kernel
theorem dX6_isWorse_27 : decode cX6_isWorse 27 = .ok (.iload_n 1, 1) := by decide +kernel
theorem dX6_isWorse_28 : decode cX6_isWorse 28 = .ok (.iconst 1, 1) := by decide +kernel
theorem dX6_isWorse_29 : decode cX6_isWorse 29 = .ok (.invokevirtual 118, 3) := by decide +kernel
theorem dX6_isWorse_32 : decode cX6_isWorse 32 = .ok (.aload_n 0, 1) := by decide +kernel
theorem dX6_isWorse_33 : decode cX6_isWorse 33 = .ok (.iload_n 2, 1) := by decide +kernel
theorem dX6_isWorse_34 : decode cX6_isWorse 34 = .ok (.iconst 1, 1) := by decide +kernel
theorem dX6_isWorse_35 : decode cX6_isWorse 35 = .ok (.invokevirtual 118, 3) := by decide +kernel
theorem dX6_isWorse_38 : decode cX6_isWorse 38 = .ok (.isub, 1) := by decide +kernel
theorem dX6_isWorse_39 : decode cX6_isWorse 39 = .ok (.istore 4, 2) := by decide +kernel
theorem dX6_isWorse_41 : decode cX6_isWorse 41 = .ok (.iload 4, 2) := by decide +kernel
theorem dX6_isWorse_43 : decode cX6_isWorse 43 = .ok (.ifCond .gt 13, 3) := by decide +kernel
theorem dX6_isWorse_46 : decode cX6_isWorse 46 = .ok (.iload 4, 2) := by decide +kernel
theorem dX6_isWorse_48 : decode cX6_isWorse 48 = .ok (.ifCond .ne 12, 3) := by decide +kernel
theorem dX6_isWorse_51 : decode cX6_isWorse 51 = .ok (.iload_n 1, 1) := by decide +kernel
theorem dX6_isWorse_52 : decode cX6_isWorse 52 = .ok (.iload_n 2, 1) := by decide +kernel
theorem dX6_isWorse_53 : decode cX6_isWorse 53 = .ok (.if_icmp .ge 7, 3) := by decide +kernel
theorem dX6_isWorse_56 : decode cX6_isWorse 56 = .ok (.iconst 1, 1) := by decide +kernel
theorem dX6_isWorse_57 : decode cX6_isWorse 57 = .ok (.goto 4, 3) := by decide +kernel
theorem dX6_isWorse_60 : decode cX6_isWorse 60 = .ok (.iconst 0, 1) := by decide +kernel
theorem dX6_isWorse_61 : decode cX6_isWorse 61 = .ok (.ireturn, 1) := by decide +kernel
theorem dX6_worst_0 : decode cX6_worst 0 = .ok (.iconst 0, 1) := by decide +kernel
theorem dX6_worst_1 : decode cX6_worst 1 = .ok (.istore_n 2, 1) := by decide +kernel
theorem dX6_worst_2 : decode cX6_worst 2 = .ok (.iload_n 2, 1) := by decide +kernel
theorem dX6_worst_3 : decode cX6_worst 3 = .ok (.aload_n 0, 1) := by decide +kernel
theorem dX6_worst_4 : decode cX6_worst 4 = .ok (.getfield 7, 3) := by decide +kernel
theorem dX6_worst_7 : decode cX6_worst 7 = .ok (.iconst 1, 1) := by decide +kernel
theorem dX6_worst_8 : decode cX6_worst 8 = .ok (.iaload, 1) := by decide +kernel
theorem dX6_worst_9 : decode cX6_worst 9 = .ok (.if_icmp .ge 64, 3) := by decide +kernel
theorem dX6_worst_12 : decode cX6_worst 12 = .ok (.iconst 0, 1) := by decide +kernel
theorem dX6_worst_13 : decode cX6_worst 13 = .ok (.istore_n 3, 1) := by decide +kernel
theorem dX6_worst_14 : decode cX6_worst 14 = .ok (.iconst 0, 1) := by decide +kernel
theorem dX6_worst_15 : decode cX6_worst 15 = .ok (.istore 4, 2) := by decide +kernel
theorem dX6_worst_17 : decode cX6_worst 17 = .ok (.iload 4, 2) := by decide +kernel
theorem dX6_worst_19 : decode cX6_worst 19 = .ok (.aload_n 0, 1) := by decide +kernel
theorem dX6_worst_20 : decode cX6_worst 20 = .ok (.getfield 7, 3) := by decide +kernel
theorem dX6_worst_23 : decode cX6_worst 23 = .ok (.iconst 1, 1) := by decide +kernel
theorem dX6_worst_24 : decode cX6_worst 24 = .ok (.iaload, 1) := by decide +kernel
theorem dX6_worst_25 : decode cX6_worst 25 = .ok (.if_icmp .ge 27, 3) := by decide +kernel
theorem dX6_worst_28 : decode cX6_worst 28 = .ok (.iload_n 3, 1) := by decide +kernel
theorem dX6_worst_29 : decode cX6_worst 29 = .ok (.aload_n 0, 1) := by decide +kernel
theorem dX6_worst_30 : decode cX6_worst 30 = .ok (.iload 4, 2) := by decide +kernel
theorem dX6_worst_32 : decode cX6_worst 32 = .ok (.iload_n 2, 1) := by decide +kernel
theorem dX6_worst_33 : decode cX6_worst 33 = .ok (.invokevirtual 170, 3) := by decide +kernel
theorem dX6_worst_36 : decode cX6_worst 36 = .ok (.ifCond .eq 7, 3) := by decide +kernel
theorem dX6_worst_39 : decode cX6_worst 39 = .ok (.iconst 1, 1) := by decide +kernel
theorem dX6_worst_40 : decode cX6_worst 40 = .ok (.goto 4, 3) := by decide +kernel
theorem dX6_worst_43 : decode cX6_worst 43 = .ok (.iconst 0, 1) := by decide +kernel
theorem dX6_worst_44 : decode cX6_worst 44 = .ok (.iadd, 1) := by decide +kernel
theorem dX6_worst_45 : decode cX6_worst 45 = .ok (.istore_n 3, 1) := by decide +kernel
theorem dX6_worst_46 : decode cX6_worst 46 = .ok (.iinc 4 1, 3) := by decide +kernel
theorem dX6_worst_49 : decode cX6_worst 49 = .ok (.goto (-32), 3) := by decide +kernel
theorem dX6_worst_52 : decode cX6_worst 52 = .ok (.iload_n 3, 1) := by decide +kernel
theorem dX6_worst_53 : decode cX6_worst 53 = .ok (.iload_n 1, 1) := by decide +kernel
theorem dX6_worst_54 : decode cX6_worst 54 = .ok (.if_icmp .eq 6, 3) := by decide +kernel
theorem dX6_worst_57 : decode cX6_worst 57 = .ok (.goto 10, 3) := by decide +kernel
theorem dX6_worst_60 : decode cX6_worst 60 = .ok (.aload_n 0, 1) := by decide +kernel
theorem dX6_worst_61 : decode cX6_worst 61 = .ok (.iconst 0, 1) := by decide +kernel
theorem dX6_worst_62 : decode cX6_worst 62 = .ok (.putfield 36, 3) := by decide +kernel
theorem dX6_worst_65 : decode cX6_worst 65 = .ok (.iload_n 2, 1) := by decide +kernel
theorem dX6_worst_66 : decode cX6_worst 66 = .ok (.ireturn, 1) := by decide +kernel
theorem dX6_worst_67 : decode cX6_worst 67 = .ok (.iinc 2 1, 3) := by decide +kernel
theorem dX6_worst_70 : decode cX6_worst 70 = .ok (.goto (-68), 3) := by decide +kernel
theorem dX6_worst_73 : decode cX6_worst 73 = .ok (.aload_n 0, 1) := by decide +kernel
theorem dX6_worst_74 : decode cX6_worst 74 = .ok (.iconst 1, 1) := by decide +kernel
theorem dX6_worst_75 : decode cX6_worst 75 = .ok (.putfield 36, 3) := by decide +kernel
theorem dX6_worst_78 : decode cX6_worst 78 = .ok (.iconst 0, 1) := by decide +kernel
theorem dX6_worst_79 : decode cX6_worst 79 = .ok (.ireturn, 1) := by decide +kernel
theorem dX6_writes_0 : decode cX6_writes 0 = .ok (.aload_n 0, 1) := by decide +kernel
theorem dX6_writes_1 : decode cX6_writes 1 = .ok (.getfield 29, 3) := by decide +kernel
theorem dX6_writes_4 : decode cX6_writes 4 = .ok (.aload_n 0, 1) := by decide +kernel
theorem dX6_writes_5 : decode cX6_writes 5 = .ok (.getfield 173, 3) := by decide +kernel
theorem dX6_writes_8 : decode cX6_writes 8 = .ok (.iload_n 1, 1) := by decide +kernel
theorem dX6_writes_9 : decode cX6_writes 9 = .ok (.i2c, 1) := by decide +kernel
theorem dX6_writes_10 : decode cX6_writes 10 = .ok (.castore, 1) := by decide +kernel
theorem dX6_writes_11 : decode cX6_writes 11 = .ok (.aload_n 0, 1) := by decide +kernel
theorem dX6_writes_12 : decode cX6_writes 12 = .ok (.dup, 1) := by decide +kernel
theorem dX6_writes_13 : decode cX6_writes 13 = .ok (.getfield 173, 3) := by decide +kernel
theorem dX6_writes_16 : decode cX6_writes 16 = .ok (.iconst 1, 1) := by decide +kernel
theorem dX6_writes_17 : decode cX6_writes 17 = .ok (.iadd, 1) := by decide +kernel
theorem dX6_writes_18 : decode cX6_writes 18 = .ok (.putfield 173, 3) := by decide +kernel
theorem dX6_writes_21 : decode cX6_writes 21 = .ok (.return_, 1) := by decide +kernel
theorem dX6_writesNumber_0 : decode cX6_writesNumber 0 = .ok (.iload_n 1, 1) := by decide +kernel
theorem dX6_writesNumber_1 : decode cX6_writesNumber 1 = .ok (.bipush 9, 2) := by decide +kernel
theorem dX6_writesNumber_3 : decode cX6_writesNumber 3 = .ok (.if_icmp .le 14, 3) := by decide +kernel
theorem dX6_writesNumber_6 : decode cX6_writesNumber 6 = .ok (.aload_n 0, 1) := by decide +kernel
theorem dX6_writesNumber_7 : decode cX6_writesNumber 7 = .ok (.bipush 48, 2) := by decide +kernel
theorem dX6_writesNumber_9 : decode cX6_writesNumber 9 = .ok (.iload_n 1, 1) := by decide +kernel
theorem dX6_writesNumber_10 : decode cX6_writesNumber 10 = .ok (.bipush 10, 2) := by decide +kernel
theorem dX6_writesNumber_12 : decode cX6_writesNumber 12 = .ok (.idiv, 1) := by decide +kernel
theorem dX6_writesNumber_13 : decode cX6_writesNumber 13 = .ok (.iadd, 1) := by decide +kernel
theorem dX6_writesNumber_14 : decode cX6_writesNumber 14 = .ok (.invokevirtual 176, 3) := by decide +kernel
theorem dX6_writesNumber_17 : decode cX6_writesNumber 17 = .ok (.aload_n 0, 1) := by decide +kernel
theorem dX6_writesNumber_18 : decode cX6_writesNumber 18 = .ok (.bipush 48, 2) := by decide +kernel
theorem dX6_writesNumber_20 : decode cX6_writesNumber 20 = .ok (.iload_n 1, 1) := by decide +kernel
theorem dX6_writesNumber_21 : decode cX6_writesNumber 21 = .ok (.bipush 10, 2) := by decide +kernel
theorem dX6_writesNumber_23 : decode cX6_writesNumber 23 = .ok (.irem, 1) := by decide +kernel
theorem dX6_writesNumber_24 : decode cX6_writesNumber 24 = .ok (.iadd, 1) := by decide +kernel
theorem dX6_writesNumber_25 : decode cX6_writesNumber 25 = .ok (.invokevirtual 176, 3) := by decide +kernel
theorem dX6_writesNumber_28 : decode cX6_writesNumber 28 = .ok (.return_, 1) := by decide +kernel
theorem dX6_line_0 : decode cX6_line 0 = .ok (.aload_n 0, 1) := by decide +kernel
theorem dX6_line_1 : decode cX6_line 1 = .ok (.aload_n 0, 1) := by decide +kernel
theorem dX6_line_2 : decode cX6_line 2 = .ok (.iload_n 1, 1) := by decide +kernel
theorem dX6_line_3 : decode cX6_line 3 = .ok (.invokevirtual 76, 3) := by decide +kernel
theorem dX6_line_6 : decode cX6_line 6 = .ok (.ifCond .eq 7, 3) := by decide +kernel
theorem dX6_line_9 : decode cX6_line 9 = .ok (.iconst 0, 1) := by decide +kernel
theorem dX6_line_10 : decode cX6_line 10 = .ok (.goto 4, 3) := by decide +kernel
theorem dX6_line_13 : decode cX6_line 13 = .ok (.iconst 1, 1) := by decide +kernel
theorem dX6_line_14 : decode cX6_line 14 = .ok (.invokevirtual 86, 3) := by decide +kernel
theorem dX6_line_17 : decode cX6_line 17 = .ok (.ifCond .eq 5, 3) := by decide +kernel
theorem dX6_line_20 : decode cX6_line 20 = .ok (.iconst 0, 1) := by decide +kernel
theorem dX6_line_21 : decode cX6_line 21 = .ok (.ireturn, 1) := by decide +kernel
theorem dX6_line_22 : decode cX6_line 22 = .ok (.aload_n 0, 1) := by decide +kernel
theorem dX6_line_23 : decode cX6_line 23 = .ok (.iconst 0, 1) := by decide +kernel
theorem dX6_line_24 : decode cX6_line 24 = .ok (.putfield 173, 3) := by decide +kernel
theorem dX6_line_27 : decode cX6_line 27 = .ok (.aload_n 0, 1) := by decide +kernel
theorem dX6_line_28 : decode cX6_line 28 = .ok (.aload_n 0, 1) := by decide +kernel
theorem dX6_line_29 : decode cX6_line 29 = .ok (.iload_n 1, 1) := by decide +kernel
theorem dX6_line_30 : decode cX6_line 30 = .ok (.iconst 0, 1) := by decide +kernel
theorem dX6_line_31 : decode cX6_line 31 = .ok (.invokevirtual 80, 3) := by decide +kernel
theorem dX6_line_34 : decode cX6_line 34 = .ok (.invokevirtual 180, 3) := by decide +kernel
theorem dX6_line_37 : decode cX6_line 37 = .ok (.aload_n 0, 1) := by decide +kernel
theorem dX6_line_38 : decode cX6_line 38 = .ok (.bipush 58, 2) := by decide +kernel
theorem dX6_line_40 : decode cX6_line 40 = .ok (.invokevirtual 176, 3) := by decide +kernel
theorem dX6_line_43 : decode cX6_line 43 = .ok (.iconst 0, 1) := by decide +kernel
theorem dX6_line_44 : decode cX6_line 44 = .ok (.istore_n 2, 1) := by decide +kernel
theorem dX6_line_45 : decode cX6_line 45 = .ok (.iload_n 2, 1) := by decide +kernel
theorem dX6_line_46 : decode cX6_line 46 = .ok (.aload_n 0, 1) := by decide +kernel
theorem dX6_line_47 : decode cX6_line 47 = .ok (.iload_n 1, 1) := by decide +kernel
theorem dX6_line_48 : decode cX6_line 48 = .ok (.iconst 1, 1) := by decide +kernel
theorem dX6_line_49 : decode cX6_line 49 = .ok (.invokevirtual 80, 3) := by decide +kernel
theorem dX6_line_52 : decode cX6_line 52 = .ok (.if_icmp .ge 64, 3) := by decide +kernel
theorem dX6_line_55 : decode cX6_line 55 = .ok (.aload_n 0, 1) := by decide +kernel
theorem dX6_line_56 : decode cX6_line 56 = .ok (.iload_n 1, 1) := by decide +kernel
theorem dX6_line_57 : decode cX6_line 57 = .ok (.iload_n 2, 1) := by decide +kernel
theorem dX6_line_58 : decode cX6_line 58 = .ok (.invokevirtual 111, 3) := by decide +kernel
theorem dX6_line_61 : decode cX6_line 61 = .ok (.istore_n 3, 1) := by decide +kernel
theorem dX6_line_62 : decode cX6_line 62 = .ok (.aload_n 0, 1) := by decide +kernel
theorem dX6_line_63 : decode cX6_line 63 = .ok (.iload_n 3, 1) := by decide +kernel
theorem dX6_line_64 : decode cX6_line 64 = .ok (.ifCond .ne 8, 3) := by decide +kernel
theorem dX6_line_67 : decode cX6_line 67 = .ok (.bipush 97, 2) := by decide +kernel
theorem dX6_line_69 : decode cX6_line 69 = .ok (.goto 5, 3) := by decide +kernel
theorem dX6_line_72 : decode cX6_line 72 = .ok (.bipush 65, 2) := by decide +kernel
theorem dX6_line_74 : decode cX6_line 74 = .ok (.iconst 1, 1) := by decide +kernel
theorem dX6_line_75 : decode cX6_line 75 = .ok (.isub, 1) := by decide +kernel
theorem dX6_line_76 : decode cX6_line 76 = .ok (.aload_n 0, 1) := by decide +kernel
theorem dX6_line_77 : decode cX6_line 77 = .ok (.iload_n 1, 1) := by decide +kernel
theorem dX6_line_78 : decode cX6_line 78 = .ok (.bipush 10, 2) := by decide +kernel
theorem dX6_line_80 : decode cX6_line 80 = .ok (.iload_n 2, 1) := by decide +kernel
theorem dX6_line_81 : decode cX6_line 81 = .ok (.iadd, 1) := by decide +kernel
theorem dX6_line_82 : decode cX6_line 82 = .ok (.invokevirtual 80, 3) := by decide +kernel
theorem dX6_line_85 : decode cX6_line 85 = .ok (.iadd, 1) := by decide +kernel
theorem dX6_line_86 : decode cX6_line 86 = .ok (.invokevirtual 176, 3) := by decide +kernel
theorem dX6_line_89 : decode cX6_line 89 = .ok (.iload_n 3, 1) := by decide +kernel
theorem dX6_line_90 : decode cX6_line 90 = .ok (.iconst 1, 1) := by decide +kernel
theorem dX6_line_91 : decode cX6_line 91 = .ok (.if_icmp .le 19, 3) := by decide +kernel
theorem dX6_line_94 : decode cX6_line 94 = .ok (.aload_n 0, 1) := by decide +kernel
theorem dX6_line_95 : decode cX6_line 95 = .ok (.iload_n 3, 1) := by decide +kernel
theorem dX6_line_96 : decode cX6_line 96 = .ok (.iconst 2, 1) := by decide +kernel
theorem dX6_line_97 : decode cX6_line 97 = .ok (.if_icmp .ne 8, 3) := by decide +kernel
theorem dX6_line_100 : decode cX6_line 100 = .ok (.bipush 39, 2) := by decide +kernel
theorem dX6_line_102 : decode cX6_line 102 = .ok (.goto 5, 3) := by decide +kernel
theorem dX6_line_105 : decode cX6_line 105 = .ok (.bipush 33, 2) := by decide +kernel
theorem dX6_line_107 : decode cX6_line 107 = .ok (.invokevirtual 176, 3) := by decide +kernel
theorem dX6_line_110 : decode cX6_line 110 = .ok (.iinc 2 1, 3) := by decide +kernel
theorem dX6_line_113 : decode cX6_line 113 = .ok (.goto (-68), 3) := by decide +kernel
theorem dX6_line_116 : decode cX6_line 116 = .ok (.aload_n 0, 1) := by decide +kernel
theorem dX6_line_117 : decode cX6_line 117 = .ok (.getfield 173, 3) := by decide +kernel
theorem dX6_line_120 : decode cX6_line 120 = .ok (.ireturn, 1) := by decide +kernel
theorem dX6_houseLine_0 : decode cX6_houseLine 0 = .ok (.aload_n 0, 1) := by decide +kernel
theorem dX6_houseLine_1 : decode cX6_houseLine 1 = .ok (.aload_n 0, 1) := by decide +kernel
theorem dX6_houseLine_2 : decode cX6_houseLine 2 = .ok (.iload_n 1, 1) := by decide +kernel
theorem dX6_houseLine_3 : decode cX6_houseLine 3 = .ok (.invokevirtual 101, 3) := by decide +kernel
theorem dX6_houseLine_6 : decode cX6_houseLine 6 = .ok (.ifCond .eq 7, 3) := by decide +kernel
theorem dX6_houseLine_9 : decode cX6_houseLine 9 = .ok (.iconst 0, 1) := by decide +kernel
theorem dX6_houseLine_10 : decode cX6_houseLine 10 = .ok (.goto 4, 3) := by decide +kernel
theorem dX6_houseLine_13 : decode cX6_houseLine 13 = .ok (.iconst 1, 1) := by decide +kernel
theorem dX6_houseLine_14 : decode cX6_houseLine 14 = .ok (.invokevirtual 86, 3) := by decide +kernel
theorem dX6_houseLine_17 : decode cX6_houseLine 17 = .ok (.ifCond .eq 5, 3) := by decide +kernel
theorem dX6_houseLine_20 : decode cX6_houseLine 20 = .ok (.iconst 0, 1) := by decide +kernel
theorem dX6_houseLine_21 : decode cX6_houseLine 21 = .ok (.ireturn, 1) := by decide +kernel
theorem dX6_houseLine_22 : decode cX6_houseLine 22 = .ok (.aload_n 0, 1) := by decide +kernel
theorem dX6_houseLine_23 : decode cX6_houseLine 23 = .ok (.iconst 0, 1) := by decide +kernel
theorem dX6_houseLine_24 : decode cX6_houseLine 24 = .ok (.putfield 173, 3) := by decide +kernel
theorem dX6_houseLine_27 : decode cX6_houseLine 27 = .ok (.aload_n 0, 1) := by decide +kernel
theorem dX6_houseLine_28 : decode cX6_houseLine 28 = .ok (.iload_n 1, 1) := by decide +kernel
theorem dX6_houseLine_29 : decode cX6_houseLine 29 = .ok (.invokevirtual 180, 3) := by decide +kernel
theorem dX6_houseLine_32 : decode cX6_houseLine 32 = .ok (.aload_n 0, 1) := by decide +kernel
theorem dX6_houseLine_33 : decode cX6_houseLine 33 = .ok (.bipush 36, 2) := by decide +kernel
theorem dX6_houseLine_35 : decode cX6_houseLine 35 = .ok (.invokevirtual 176, 3) := by decide +kernel
theorem dX6_houseLine_38 : decode cX6_houseLine 38 = .ok (.aload_n 0, 1) := by decide +kernel
theorem dX6_houseLine_39 : decode cX6_houseLine 39 = .ok (.aload_n 0, 1) := by decide +kernel
theorem dX6_houseLine_40 : decode cX6_houseLine 40 = .ok (.iload_n 1, 1) := by decide +kernel
theorem dX6_houseLine_41 : decode cX6_houseLine 41 = .ok (.iconst 0, 1) := by decide +kernel
theorem dX6_houseLine_42 : decode cX6_houseLine 42 = .ok (.invokevirtual 65, 3) := by decide +kernel
theorem dX6_houseLine_45 : decode cX6_houseLine 45 = .ok (.invokevirtual 180, 3) := by decide +kernel
theorem dX6_houseLine_48 : decode cX6_houseLine 48 = .ok (.aload_n 0, 1) := by decide +kernel
theorem dX6_houseLine_49 : decode cX6_houseLine 49 = .ok (.bipush 126, 2) := by decide +kernel
theorem dX6_houseLine_51 : decode cX6_houseLine 51 = .ok (.invokevirtual 176, 3) := by decide +kernel
theorem dX6_houseLine_54 : decode cX6_houseLine 54 = .ok (.aload_n 0, 1) := by decide +kernel
theorem dX6_houseLine_55 : decode cX6_houseLine 55 = .ok (.aload_n 0, 1) := by decide +kernel
theorem dX6_houseLine_56 : decode cX6_houseLine 56 = .ok (.iload_n 1, 1) := by decide +kernel
theorem dX6_houseLine_57 : decode cX6_houseLine 57 = .ok (.iconst 1, 1) := by decide +kernel
theorem dX6_houseLine_58 : decode cX6_houseLine 58 = .ok (.invokevirtual 65, 3) := by decide +kernel
theorem dX6_houseLine_61 : decode cX6_houseLine 61 = .ok (.invokevirtual 180, 3) := by decide +kernel
theorem dX6_houseLine_64 : decode cX6_houseLine 64 = .ok (.aload_n 0, 1) := by decide +kernel
theorem dX6_houseLine_65 : decode cX6_houseLine 65 = .ok (.iload_n 1, 1) := by decide +kernel
theorem dX6_houseLine_66 : decode cX6_houseLine 66 = .ok (.invokevirtual 124, 3) := by decide +kernel
theorem dX6_houseLine_69 : decode cX6_houseLine 69 = .ok (.ifCond .eq 9, 3) := by decide +kernel
theorem dX6_houseLine_72 : decode cX6_houseLine 72 = .ok (.aload_n 0, 1) := by decide +kernel
theorem dX6_houseLine_73 : decode cX6_houseLine 73 = .ok (.bipush 42, 2) := by decide +kernel
theorem dX6_houseLine_75 : decode cX6_houseLine 75 = .ok (.invokevirtual 176, 3) := by decide +kernel
theorem dX6_houseLine_78 : decode cX6_houseLine 78 = .ok (.aload_n 0, 1) := by decide +kernel
theorem dX6_houseLine_79 : decode cX6_houseLine 79 = .ok (.getfield 173, 3) := by decide +kernel
theorem dX6_houseLine_82 : decode cX6_houseLine 82 = .ok (.ireturn, 1) := by decide +kernel
theorem dX6_character_0 : decode cX6_character 0 = .ok (.aload_n 0, 1) := by decide +kernel
theorem dX6_character_1 : decode cX6_character 1 = .ok (.iload_n 1, 1) := by decide +kernel
theorem dX6_character_2 : decode cX6_character 2 = .ok (.iconst 0, 1) := by decide +kernel
theorem dX6_character_3 : decode cX6_character 3 = .ok (.aload_n 0, 1) := by decide +kernel
theorem dX6_character_4 : decode cX6_character 4 = .ok (.getfield 173, 3) := by decide +kernel
theorem dX6_character_7 : decode cX6_character 7 = .ok (.iconst 1, 1) := by decide +kernel
theorem dX6_character_8 : decode cX6_character 8 = .ok (.isub, 1) := by decide +kernel
theorem dX6_character_9 : decode cX6_character 9 = .ok (.invokestatic 72, 3) := by decide +kernel
theorem dX6_character_12 : decode cX6_character 12 = .ok (.ifCond .eq 7, 3) := by decide +kernel
theorem dX6_character_15 : decode cX6_character 15 = .ok (.iconst 0, 1) := by decide +kernel
theorem dX6_character_16 : decode cX6_character 16 = .ok (.goto 4, 3) := by decide +kernel
theorem dX6_character_19 : decode cX6_character 19 = .ok (.iconst 1, 1) := by decide +kernel
theorem dX6_character_20 : decode cX6_character 20 = .ok (.invokevirtual 86, 3) := by decide +kernel
theorem dX6_character_23 : decode cX6_character 23 = .ok (.ifCond .eq 8, 3) := by decide +kernel
theorem dX6_character_26 : decode cX6_character 26 = .ok (.bipush 32, 2) := by decide +kernel
theorem dX6_character_28 : decode cX6_character 28 = .ok (.goto 9, 3) := by decide +kernel
theorem dX6_character_31 : decode cX6_character 31 = .ok (.aload_n 0, 1) := by decide +kernel
theorem dX6_character_32 : decode cX6_character 32 = .ok (.getfield 29, 3) := by decide +kernel
theorem dX6_character_35 : decode cX6_character 35 = .ok (.iload_n 1, 1) := by decide +kernel
theorem dX6_character_36 : decode cX6_character 36 = .ok (.caload, 1) := by decide +kernel
theorem dX6_character_37 : decode cX6_character 37 = .ok (.ireturn, 1) := by decide +kernel
theorem dX6_append_0 : decode cX6_append 0 = .ok (.aload_n 0, 1) := by decide +kernel
theorem dX6_append_1 : decode cX6_append 1 = .ok (.aload_n 0, 1) := by decide +kernel
theorem dX6_append_2 : decode cX6_append 2 = .ok (.getfield 183, 3) := by decide +kernel
theorem dX6_append_5 : decode cX6_append 5 = .ok (.bipush 60, 2) := by decide +kernel
theorem dX6_append_7 : decode cX6_append 7 = .ok (.if_icmp .ne 7, 3) := by decide +kernel
theorem dX6_append_10 : decode cX6_append 10 = .ok (.iconst 1, 1) := by decide +kernel
theorem dX6_append_11 : decode cX6_append 11 = .ok (.goto 4, 3) := by decide +kernel
theorem dX6_append_14 : decode cX6_append 14 = .ok (.iconst 0, 1) := by decide +kernel
theorem dX6_append_15 : decode cX6_append 15 = .ok (.invokevirtual 86, 3) := by decide +kernel
theorem dX6_append_18 : decode cX6_append 18 = .ok (.ifCond .eq 5, 3) := by decide +kernel
theorem dX6_append_21 : decode cX6_append 21 = .ok (.iconst 0, 1) := by decide +kernel
theorem dX6_append_22 : decode cX6_append 22 = .ok (.ireturn, 1) := by decide +kernel
theorem dX6_append_23 : decode cX6_append 23 = .ok (.aload_n 0, 1) := by decide +kernel
theorem dX6_append_24 : decode cX6_append 24 = .ok (.getfield 22, 3) := by decide +kernel
theorem dX6_append_27 : decode cX6_append 27 = .ok (.aload_n 0, 1) := by decide +kernel
theorem dX6_append_28 : decode cX6_append 28 = .ok (.getfield 183, 3) := by decide +kernel
theorem dX6_append_31 : decode cX6_append 31 = .ok (.iload_n 1, 1) := by decide +kernel
theorem dX6_append_32 : decode cX6_append 32 = .ok (.iastore, 1) := by decide +kernel
theorem dX6_append_33 : decode cX6_append 33 = .ok (.aload_n 0, 1) := by decide +kernel
theorem dX6_append_34 : decode cX6_append 34 = .ok (.dup, 1) := by decide +kernel
theorem dX6_append_35 : decode cX6_append 35 = .ok (.getfield 183, 3) := by decide +kernel
theorem dX6_append_38 : decode cX6_append 38 = .ok (.iconst 1, 1) := by decide +kernel
theorem dX6_append_39 : decode cX6_append 39 = .ok (.iadd, 1) := by decide +kernel
theorem dX6_append_40 : decode cX6_append 40 = .ok (.putfield 183, 3) := by decide +kernel
theorem dX6_append_43 : decode cX6_append 43 = .ok (.aload_n 0, 1) := by decide +kernel
theorem dX6_append_44 : decode cX6_append 44 = .ok (.getfield 183, 3) := by decide +kernel
theorem dX6_append_47 : decode cX6_append 47 = .ok (.ireturn, 1) := by decide +kernel
theorem dX6_here_0 : decode cX6_here 0 = .ok (.aload_n 0, 1) := by decide +kernel
theorem dX6_here_1 : decode cX6_here 1 = .ok (.getfield 186, 3) := by decide +kernel
theorem dX6_here_4 : decode cX6_here 4 = .ok (.aload_n 0, 1) := by decide +kernel
theorem dX6_here_5 : decode cX6_here 5 = .ok (.getfield 183, 3) := by decide +kernel
theorem dX6_here_8 : decode cX6_here 8 = .ok (.if_icmp .ge 15, 3) := by decide +kernel
theorem dX6_here_11 : decode cX6_here 11 = .ok (.aload_n 0, 1) := by decide +kernel
theorem dX6_here_12 : decode cX6_here 12 = .ok (.getfield 22, 3) := by decide +kernel
theorem dX6_here_15 : decode cX6_here 15 = .ok (.aload_n 0, 1) := by decide +kernel
theorem dX6_here_16 : decode cX6_here 16 = .ok (.getfield 186, 3) := by decide +kernel
theorem dX6_here_19 : decode cX6_here 19 = .ok (.iaload, 1) := by decide +kernel
theorem dX6_here_20 : decode cX6_here 20 = .ok (.goto 4, 3) := by decide +kernel
theorem dX6_here_23 : decode cX6_here 23 = .ok (.iconst (-1), 1) := by decide +kernel
theorem dX6_here_24 : decode cX6_here 24 = .ok (.ireturn, 1) := by decide +kernel
theorem dX6_skips_0 : decode cX6_skips 0 = .ok (.aload_n 0, 1) := by decide +kernel
theorem dX6_skips_1 : decode cX6_skips 1 = .ok (.invokevirtual 189, 3) := by decide +kernel
theorem dX6_skips_4 : decode cX6_skips 4 = .ok (.iload_n 1, 1) := by decide +kernel
theorem dX6_skips_5 : decode cX6_skips 5 = .ok (.if_icmp .eq 5, 3) := by decide +kernel
theorem dX6_skips_8 : decode cX6_skips 8 = .ok (.iconst 0, 1) := by decide +kernel
theorem dX6_skips_9 : decode cX6_skips 9 = .ok (.ireturn, 1) := by decide +kernel
theorem dX6_skips_10 : decode cX6_skips 10 = .ok (.aload_n 0, 1) := by decide +kernel
theorem dX6_skips_11 : decode cX6_skips 11 = .ok (.dup, 1) := by decide +kernel
theorem dX6_skips_12 : decode cX6_skips 12 = .ok (.getfield 186, 3) := by decide +kernel
theorem dX6_skips_15 : decode cX6_skips 15 = .ok (.iconst 1, 1) := by decide +kernel
theorem dX6_skips_16 : decode cX6_skips 16 = .ok (.iadd, 1) := by decide +kernel
theorem dX6_skips_17 : decode cX6_skips 17 = .ok (.putfield 186, 3) := by decide +kernel
theorem dX6_skips_20 : decode cX6_skips 20 = .ok (.iconst 1, 1) := by decide +kernel
theorem dX6_skips_21 : decode cX6_skips 21 = .ok (.ireturn, 1) := by decide +kernel
theorem dX6_figures_0 : decode cX6_figures 0 = .ok (.aload_n 0, 1) := by decide +kernel
theorem dX6_figures_1 : decode cX6_figures 1 = .ok (.invokevirtual 189, 3) := by decide +kernel
theorem dX6_figures_4 : decode cX6_figures 4 = .ok (.bipush 48, 2) := by decide +kernel
theorem dX6_figures_6 : decode cX6_figures 6 = .ok (.bipush 57, 2) := by decide +kernel
theorem dX6_figures_8 : decode cX6_figures 8 = .ok (.invokestatic 72, 3) := by decide +kernel
theorem dX6_figures_11 : decode cX6_figures 11 = .ok (.ifCond .ne 5, 3) := by decide +kernel
theorem dX6_figures_14 : decode cX6_figures 14 = .ok (.iconst 0, 1) := by decide +kernel
theorem dX6_figures_15 : decode cX6_figures 15 = .ok (.ireturn, 1) := by decide +kernel
theorem dX6_figures_16 : decode cX6_figures 16 = .ok (.aload_n 0, 1) := by decide +kernel
theorem dX6_figures_17 : decode cX6_figures 17 = .ok (.getfield 33, 3) := by decide +kernel
theorem dX6_figures_20 : decode cX6_figures 20 = .ok (.iload_n 1, 1) := by decide +kernel
theorem dX6_figures_21 : decode cX6_figures 21 = .ok (.iconst 0, 1) := by decide +kernel
theorem dX6_figures_22 : decode cX6_figures 22 = .ok (.iastore, 1) := by decide +kernel
theorem dX6_figures_23 : decode cX6_figures 23 = .ok (.iconst 0, 1) := by decide +kernel
theorem dX6_figures_24 : decode cX6_figures 24 = .ok (.istore_n 3, 1) := by decide +kernel
theorem dX6_figures_25 : decode cX6_figures 25 = .ok (.iload_n 3, 1) := by decide +kernel
theorem dX6_figures_26 : decode cX6_figures 26 = .ok (.iload_n 2, 1) := by decide +kernel
theorem dX6_figures_27 : decode cX6_figures 27 = .ok (.if_icmp .ge 56, 3) := by decide +kernel
theorem dX6_figures_30 : decode cX6_figures 30 = .ok (.aload_n 0, 1) := by decide +kernel
theorem dX6_figures_31 : decode cX6_figures 31 = .ok (.invokevirtual 189, 3) := by decide +kernel
theorem dX6_figures_34 : decode cX6_figures 34 = .ok (.bipush 48, 2) := by decide +kernel
theorem dX6_figures_36 : decode cX6_figures 36 = .ok (.bipush 57, 2) := by decide +kernel
theorem dX6_figures_38 : decode cX6_figures 38 = .ok (.invokestatic 72, 3) := by decide +kernel
theorem dX6_figures_41 : decode cX6_figures 41 = .ok (.ifCond .eq 42, 3) := by decide +kernel
theorem dX6_figures_44 : decode cX6_figures 44 = .ok (.aload_n 0, 1) := by decide +kernel
theorem dX6_figures_45 : decode cX6_figures 45 = .ok (.getfield 33, 3) := by decide +kernel
theorem dX6_figures_48 : decode cX6_figures 48 = .ok (.iload_n 1, 1) := by decide +kernel
theorem dX6_figures_49 : decode cX6_figures 49 = .ok (.bipush 10, 2) := by decide +kernel
theorem dX6_figures_51 : decode cX6_figures 51 = .ok (.aload_n 0, 1) := by decide +kernel
theorem dX6_figures_52 : decode cX6_figures 52 = .ok (.getfield 33, 3) := by decide +kernel
theorem dX6_figures_55 : decode cX6_figures 55 = .ok (.iload_n 1, 1) := by decide +kernel
theorem dX6_figures_56 : decode cX6_figures 56 = .ok (.iaload, 1) := by decide +kernel
theorem dX6_figures_57 : decode cX6_figures 57 = .ok (.imul, 1) := by decide +kernel
theorem dX6_figures_58 : decode cX6_figures 58 = .ok (.aload_n 0, 1) := by decide +kernel
theorem dX6_figures_59 : decode cX6_figures 59 = .ok (.invokevirtual 189, 3) := by decide +kernel
theorem dX6_figures_62 : decode cX6_figures 62 = .ok (.iadd, 1) := by decide +kernel
theorem dX6_figures_63 : decode cX6_figures 63 = .ok (.bipush 48, 2) := by decide +kernel
theorem dX6_figures_65 : decode cX6_figures 65 = .ok (.isub, 1) := by decide +kernel
theorem dX6_figures_66 : decode cX6_figures 66 = .ok (.iastore, 1) := by decide +kernel
theorem dX6_figures_67 : decode cX6_figures 67 = .ok (.aload_n 0, 1) := by decide +kernel
theorem dX6_figures_68 : decode cX6_figures 68 = .ok (.dup, 1) := by decide +kernel
theorem dX6_figures_69 : decode cX6_figures 69 = .ok (.getfield 186, 3) := by decide +kernel
theorem dX6_figures_72 : decode cX6_figures 72 = .ok (.iconst 1, 1) := by decide +kernel
theorem dX6_figures_73 : decode cX6_figures 73 = .ok (.iadd, 1) := by decide +kernel
theorem dX6_figures_74 : decode cX6_figures 74 = .ok (.putfield 186, 3) := by decide +kernel
theorem dX6_figures_77 : decode cX6_figures 77 = .ok (.iinc 3 1, 3) := by decide +kernel
theorem dX6_figures_80 : decode cX6_figures 80 = .ok (.goto (-55), 3) := by decide +kernel
theorem dX6_figures_83 : decode cX6_figures 83 = .ok (.iconst 1, 1) := by decide +kernel
theorem dX6_figures_84 : decode cX6_figures 84 = .ok (.ireturn, 1) := by decide +kernel
theorem dX6_wordHere_0 : decode cX6_wordHere 0 = .ok (.iconst 0, 1) := by decide +kernel
theorem dX6_wordHere_1 : decode cX6_wordHere 1 = .ok (.istore 4, 2) := by decide +kernel
theorem dX6_wordHere_3 : decode cX6_wordHere 3 = .ok (.aload_n 0, 1) := by decide +kernel
theorem dX6_wordHere_4 : decode cX6_wordHere 4 = .ok (.getfield 33, 3) := by decide +kernel
theorem dX6_wordHere_7 : decode cX6_wordHere 7 = .ok (.iload_n 1, 1) := by decide +kernel
theorem dX6_wordHere_8 : decode cX6_wordHere 8 = .ok (.iconst 0, 1) := by decide +kernel
theorem dX6_wordHere_9 : decode cX6_wordHere 9 = .ok (.iastore, 1) := by decide +kernel
theorem dX6_wordHere_10 : decode cX6_wordHere 10 = .ok (.iload 4, 2) := by decide +kernel
theorem dX6_wordHere_12 : decode cX6_wordHere 12 = .ok (.iload_n 3, 1) := by decide +kernel
theorem dX6_wordHere_13 : decode cX6_wordHere 13 = .ok (.if_icmp .ge 58, 3) := by decide +kernel
theorem dX6_wordHere_16 : decode cX6_wordHere 16 = .ok (.aload_n 0, 1) := by decide +kernel
theorem dX6_wordHere_17 : decode cX6_wordHere 17 = .ok (.invokevirtual 189, 3) := by decide +kernel
theorem dX6_wordHere_20 : decode cX6_wordHere 20 = .ok (.bipush 97, 2) := by decide +kernel
theorem dX6_wordHere_22 : decode cX6_wordHere 22 = .ok (.bipush 102, 2) := by decide +kernel
theorem dX6_wordHere_24 : decode cX6_wordHere 24 = .ok (.invokestatic 72, 3) := by decide +kernel
theorem dX6_wordHere_27 : decode cX6_wordHere 27 = .ok (.ifCond .eq 44, 3) := by decide +kernel
theorem dX6_wordHere_30 : decode cX6_wordHere 30 = .ok (.aload_n 0, 1) := by decide +kernel
theorem dX6_wordHere_31 : decode cX6_wordHere 31 = .ok (.getfield 33, 3) := by decide +kernel
theorem dX6_wordHere_34 : decode cX6_wordHere 34 = .ok (.iload_n 1, 1) := by decide +kernel
theorem dX6_wordHere_35 : decode cX6_wordHere 35 = .ok (.bipush 10, 2) := by decide +kernel
theorem dX6_wordHere_37 : decode cX6_wordHere 37 = .ok (.aload_n 0, 1) := by decide +kernel
theorem dX6_wordHere_38 : decode cX6_wordHere 38 = .ok (.getfield 33, 3) := by decide +kernel
theorem dX6_wordHere_41 : decode cX6_wordHere 41 = .ok (.iload_n 1, 1) := by decide +kernel
theorem dX6_wordHere_42 : decode cX6_wordHere 42 = .ok (.iaload, 1) := by decide +kernel
theorem dX6_wordHere_43 : decode cX6_wordHere 43 = .ok (.imul, 1) := by decide +kernel
theorem dX6_wordHere_44 : decode cX6_wordHere 44 = .ok (.aload_n 0, 1) := by decide +kernel
theorem dX6_wordHere_45 : decode cX6_wordHere 45 = .ok (.invokevirtual 189, 3) := by decide +kernel
theorem dX6_wordHere_48 : decode cX6_wordHere 48 = .ok (.iadd, 1) := by decide +kernel
theorem dX6_wordHere_49 : decode cX6_wordHere 49 = .ok (.bipush 97, 2) := by decide +kernel
theorem dX6_wordHere_51 : decode cX6_wordHere 51 = .ok (.isub, 1) := by decide +kernel
theorem dX6_wordHere_52 : decode cX6_wordHere 52 = .ok (.iconst 1, 1) := by decide +kernel
theorem dX6_wordHere_53 : decode cX6_wordHere 53 = .ok (.iadd, 1) := by decide +kernel
theorem dX6_wordHere_54 : decode cX6_wordHere 54 = .ok (.iastore, 1) := by decide +kernel
theorem dX6_wordHere_55 : decode cX6_wordHere 55 = .ok (.aload_n 0, 1) := by decide +kernel
theorem dX6_wordHere_56 : decode cX6_wordHere 56 = .ok (.dup, 1) := by decide +kernel
theorem dX6_wordHere_57 : decode cX6_wordHere 57 = .ok (.getfield 186, 3) := by decide +kernel
theorem dX6_wordHere_60 : decode cX6_wordHere 60 = .ok (.iconst 1, 1) := by decide +kernel
theorem dX6_wordHere_61 : decode cX6_wordHere 61 = .ok (.iadd, 1) := by decide +kernel
theorem dX6_wordHere_62 : decode cX6_wordHere 62 = .ok (.putfield 186, 3) := by decide +kernel
theorem dX6_wordHere_65 : decode cX6_wordHere 65 = .ok (.iinc 4 1, 3) := by decide +kernel
theorem dX6_wordHere_68 : decode cX6_wordHere 68 = .ok (.goto (-58), 3) := by decide +kernel
theorem dX6_wordHere_71 : decode cX6_wordHere 71 = .ok (.iload 4, 2) := by decide +kernel
theorem dX6_wordHere_73 : decode cX6_wordHere 73 = .ok (.iload_n 2, 1) := by decide +kernel
theorem dX6_wordHere_74 : decode cX6_wordHere 74 = .ok (.if_icmp .lt 7, 3) := by decide +kernel
theorem dX6_wordHere_77 : decode cX6_wordHere 77 = .ok (.iconst 1, 1) := by decide +kernel
theorem dX6_wordHere_78 : decode cX6_wordHere 78 = .ok (.goto 4, 3) := by decide +kernel
theorem dX6_wordHere_81 : decode cX6_wordHere 81 = .ok (.iconst 0, 1) := by decide +kernel
theorem dX6_wordHere_82 : decode cX6_wordHere 82 = .ok (.ireturn, 1) := by decide +kernel
theorem dX6_orderHere_0 : decode cX6_orderHere 0 = .ok (.iconst 4, 1) := by decide +kernel
theorem dX6_orderHere_1 : decode cX6_orderHere 1 = .ok (.aload_n 0, 1) := by decide +kernel
theorem dX6_orderHere_2 : decode cX6_orderHere 2 = .ok (.getfield 192, 3) := by decide +kernel
theorem dX6_orderHere_5 : decode cX6_orderHere 5 = .ok (.imul, 1) := by decide +kernel
theorem dX6_orderHere_6 : decode cX6_orderHere 6 = .ok (.istore_n 1, 1) := by decide +kernel
theorem dX6_orderHere_7 : decode cX6_orderHere 7 = .ok (.aload_n 0, 1) := by decide +kernel
theorem dX6_orderHere_8 : decode cX6_orderHere 8 = .ok (.getfield 33, 3) := by decide +kernel
theorem dX6_orderHere_11 : decode cX6_orderHere 11 = .ok (.iload_n 1, 1) := by decide +kernel
theorem dX6_orderHere_12 : decode cX6_orderHere 12 = .ok (.aload_n 0, 1) := by decide +kernel
theorem dX6_orderHere_13 : decode cX6_orderHere 13 = .ok (.invokevirtual 189, 3) := by decide +kernel
theorem dX6_orderHere_16 : decode cX6_orderHere 16 = .ok (.iastore, 1) := by decide +kernel
theorem dX6_orderHere_17 : decode cX6_orderHere 17 = .ok (.aload_n 0, 1) := by decide +kernel
theorem dX6_orderHere_18 : decode cX6_orderHere 18 = .ok (.bipush 101, 2) := by decide +kernel
theorem dX6_orderHere_20 : decode cX6_orderHere 20 = .ok (.invokevirtual 195, 3) := by decide +kernel
theorem dX6_orderHere_23 : decode cX6_orderHere 23 = .ok (.ifCond .ne 12, 3) := by decide +kernel
theorem dX6_orderHere_26 : decode cX6_orderHere 26 = .ok (.aload_n 0, 1) := by decide +kernel
theorem dX6_orderHere_27 : decode cX6_orderHere 27 = .ok (.bipush 100, 2) := by decide +kernel
theorem dX6_orderHere_29 : decode cX6_orderHere 29 = .ok (.invokevirtual 195, 3) := by decide +kernel
theorem dX6_orderHere_32 : decode cX6_orderHere 32 = .ok (.ifCond .eq 5, 3) := by decide +kernel
theorem dX6_orderHere_35 : decode cX6_orderHere 35 = .ok (.iconst 1, 1) := by decide +kernel
theorem dX6_orderHere_36 : decode cX6_orderHere 36 = .ok (.ireturn, 1) := by decide +kernel
theorem dX6_orderHere_37 : decode cX6_orderHere 37 = .ok (.aload_n 0, 1) := by decide +kernel
theorem dX6_orderHere_38 : decode cX6_orderHere 38 = .ok (.bipush 104, 2) := by decide +kernel
theorem dX6_orderHere_40 : decode cX6_orderHere 40 = .ok (.invokevirtual 195, 3) := by decide +kernel
theorem dX6_orderHere_43 : decode cX6_orderHere 43 = .ok (.ifCond .eq 12, 3) := by decide +kernel
theorem dX6_orderHere_46 : decode cX6_orderHere 46 = .ok (.aload_n 0, 1) := by decide +kernel
theorem dX6_orderHere_47 : decode cX6_orderHere 47 = .ok (.iload_n 1, 1) := by decide +kernel
theorem dX6_orderHere_48 : decode cX6_orderHere 48 = .ok (.iconst 1, 1) := by decide +kernel
theorem dX6_orderHere_49 : decode cX6_orderHere 49 = .ok (.iadd, 1) := by decide +kernel
theorem dX6_orderHere_50 : decode cX6_orderHere 50 = .ok (.iconst 2, 1) := by decide +kernel
theorem dX6_orderHere_51 : decode cX6_orderHere 51 = .ok (.invokevirtual 198, 3) := by decide +kernel
theorem dX6_orderHere_54 : decode cX6_orderHere 54 = .ok (.ireturn, 1) := by decide +kernel
theorem dX6_orderHere_55 : decode cX6_orderHere 55 = .ok (.aload_n 0, 1) := by decide +kernel
theorem dX6_orderHere_56 : decode cX6_orderHere 56 = .ok (.bipush 115, 2) := by decide +kernel
theorem dX6_orderHere_58 : decode cX6_orderHere 58 = .ok (.invokevirtual 195, 3) := by decide +kernel
theorem dX6_orderHere_61 : decode cX6_orderHere 61 = .ok (.ifCond .eq 42, 3) := by decide +kernel
theorem dX6_orderHere_64 : decode cX6_orderHere 64 = .ok (.aload_n 0, 1) := by decide +kernel
theorem dX6_orderHere_65 : decode cX6_orderHere 65 = .ok (.iload_n 1, 1) := by decide +kernel
theorem dX6_orderHere_66 : decode cX6_orderHere 66 = .ok (.iconst 1, 1) := by decide +kernel
theorem dX6_orderHere_67 : decode cX6_orderHere 67 = .ok (.iadd, 1) := by decide +kernel
theorem dX6_orderHere_68 : decode cX6_orderHere 68 = .ok (.iconst 1, 1) := by decide +kernel
theorem dX6_orderHere_69 : decode cX6_orderHere 69 = .ok (.invokevirtual 198, 3) := by decide +kernel
theorem dX6_orderHere_72 : decode cX6_orderHere 72 = .ok (.ifCond .eq 29, 3) := by decide +kernel
theorem dX6_orderHere_75 : decode cX6_orderHere 75 = .ok (.aload_n 0, 1) := by decide +kernel
theorem dX6_orderHere_76 : decode cX6_orderHere 76 = .ok (.bipush 61, 2) := by decide +kernel
theorem dX6_orderHere_78 : decode cX6_orderHere 78 = .ok (.invokevirtual 195, 3) := by decide +kernel
theorem dX6_orderHere_81 : decode cX6_orderHere 81 = .ok (.ifCond .eq 20, 3) := by decide +kernel
theorem dX6_orderHere_84 : decode cX6_orderHere 84 = .ok (.aload_n 0, 1) := by decide +kernel
theorem dX6_orderHere_85 : decode cX6_orderHere 85 = .ok (.iload_n 1, 1) := by decide +kernel
theorem dX6_orderHere_86 : decode cX6_orderHere 86 = .ok (.iconst 2, 1) := by decide +kernel
theorem dX6_orderHere_87 : decode cX6_orderHere 87 = .ok (.iadd, 1) := by decide +kernel
theorem dX6_orderHere_88 : decode cX6_orderHere 88 = .ok (.iconst 3, 1) := by decide +kernel
theorem dX6_orderHere_89 : decode cX6_orderHere 89 = .ok (.bipush 8, 2) := by decide +kernel
theorem dX6_orderHere_91 : decode cX6_orderHere 91 = .ok (.invokevirtual 201, 3) := by decide +kernel
theorem dX6_orderHere_94 : decode cX6_orderHere 94 = .ok (.ifCond .eq 7, 3) := by decide +kernel
theorem dX6_orderHere_97 : decode cX6_orderHere 97 = .ok (.iconst 1, 1) := by decide +kernel
theorem dX6_orderHere_98 : decode cX6_orderHere 98 = .ok (.goto 4, 3) := by decide +kernel
theorem dX6_orderHere_101 : decode cX6_orderHere 101 = .ok (.iconst 0, 1) := by decide +kernel
theorem dX6_orderHere_102 : decode cX6_orderHere 102 = .ok (.ireturn, 1) := by decide +kernel
theorem dX6_orderHere_103 : decode cX6_orderHere 103 = .ok (.aload_n 0, 1) := by decide +kernel
theorem dX6_orderHere_104 : decode cX6_orderHere 104 = .ok (.bipush 109, 2) := by decide +kernel
theorem dX6_orderHere_106 : decode cX6_orderHere 106 = .ok (.invokevirtual 195, 3) := by decide +kernel
theorem dX6_orderHere_109 : decode cX6_orderHere 109 = .ok (.ifCond .eq 43, 3) := by decide +kernel
theorem dX6_orderHere_112 : decode cX6_orderHere 112 = .ok (.aload_n 0, 1) := by decide +kernel
theorem dX6_orderHere_113 : decode cX6_orderHere 113 = .ok (.iload_n 1, 1) := by decide +kernel
theorem dX6_orderHere_114 : decode cX6_orderHere 114 = .ok (.iconst 1, 1) := by decide +kernel
theorem dX6_orderHere_115 : decode cX6_orderHere 115 = .ok (.iadd, 1) := by decide +kernel
theorem dX6_orderHere_116 : decode cX6_orderHere 116 = .ok (.iconst 1, 1) := by decide +kernel
theorem dX6_orderHere_117 : decode cX6_orderHere 117 = .ok (.invokevirtual 198, 3) := by decide +kernel
theorem dX6_orderHere_120 : decode cX6_orderHere 120 = .ok (.ifCond .eq 30, 3) := by decide +kernel
theorem dX6_orderHere_123 : decode cX6_orderHere 123 = .ok (.aload_n 0, 1) := by decide +kernel
theorem dX6_orderHere_124 : decode cX6_orderHere 124 = .ok (.iload_n 1, 1) := by decide +kernel
theorem dX6_orderHere_125 : decode cX6_orderHere 125 = .ok (.iconst 2, 1) := by decide +kernel
theorem dX6_orderHere_126 : decode cX6_orderHere 126 = .ok (.iadd, 1) := by decide +kernel
theorem dX6_orderHere_127 : decode cX6_orderHere 127 = .ok (.iconst 1, 1) := by decide +kernel
theorem dX6_orderHere_128 : decode cX6_orderHere 128 = .ok (.invokevirtual 198, 3) := by decide +kernel
theorem dX6_orderHere_131 : decode cX6_orderHere 131 = .ok (.ifCond .eq 19, 3) := by decide +kernel
theorem dX6_orderHere_134 : decode cX6_orderHere 134 = .ok (.aload_n 0, 1) := by decide +kernel
theorem dX6_orderHere_135 : decode cX6_orderHere 135 = .ok (.iload_n 1, 1) := by decide +kernel
theorem dX6_orderHere_136 : decode cX6_orderHere 136 = .ok (.iconst 3, 1) := by decide +kernel
theorem dX6_orderHere_137 : decode cX6_orderHere 137 = .ok (.iadd, 1) := by decide +kernel
theorem dX6_orderHere_138 : decode cX6_orderHere 138 = .ok (.iconst 1, 1) := by decide +kernel
theorem dX6_orderHere_139 : decode cX6_orderHere 139 = .ok (.iconst 1, 1) := by decide +kernel
theorem dX6_orderHere_140 : decode cX6_orderHere 140 = .ok (.invokevirtual 201, 3) := by decide +kernel
theorem dX6_orderHere_143 : decode cX6_orderHere 143 = .ok (.ifCond .eq 7, 3) := by decide +kernel
theorem dX6_orderHere_146 : decode cX6_orderHere 146 = .ok (.iconst 1, 1) := by decide +kernel
theorem dX6_orderHere_147 : decode cX6_orderHere 147 = .ok (.goto 4, 3) := by decide +kernel
theorem dX6_orderHere_150 : decode cX6_orderHere 150 = .ok (.iconst 0, 1) := by decide +kernel
theorem dX6_orderHere_151 : decode cX6_orderHere 151 = .ok (.ireturn, 1) := by decide +kernel
theorem dX6_orderHere_152 : decode cX6_orderHere 152 = .ok (.aload_n 0, 1) := by decide +kernel
theorem dX6_orderHere_153 : decode cX6_orderHere 153 = .ok (.bipush 108, 2) := by decide +kernel
theorem dX6_orderHere_155 : decode cX6_orderHere 155 = .ok (.invokevirtual 195, 3) := by decide +kernel
theorem dX6_orderHere_158 : decode cX6_orderHere 158 = .ok (.ifCond .ne 21, 3) := by decide +kernel
theorem dX6_orderHere_161 : decode cX6_orderHere 161 = .ok (.aload_n 0, 1) := by decide +kernel
theorem dX6_orderHere_162 : decode cX6_orderHere 162 = .ok (.bipush 99, 2) := by decide +kernel
theorem dX6_orderHere_164 : decode cX6_orderHere 164 = .ok (.invokevirtual 195, 3) := by decide +kernel
theorem dX6_orderHere_167 : decode cX6_orderHere 167 = .ok (.ifCond .ne 12, 3) := by decide +kernel
theorem dX6_orderHere_170 : decode cX6_orderHere 170 = .ok (.aload_n 0, 1) := by decide +kernel
theorem dX6_orderHere_171 : decode cX6_orderHere 171 = .ok (.bipush 114, 2) := by decide +kernel
theorem dX6_orderHere_173 : decode cX6_orderHere 173 = .ok (.invokevirtual 195, 3) := by decide +kernel
theorem dX6_orderHere_176 : decode cX6_orderHere 176 = .ok (.ifCond .eq 31, 3) := by decide +kernel
theorem dX6_orderHere_179 : decode cX6_orderHere 179 = .ok (.aload_n 0, 1) := by decide +kernel
theorem dX6_orderHere_180 : decode cX6_orderHere 180 = .ok (.iload_n 1, 1) := by decide +kernel
theorem dX6_orderHere_181 : decode cX6_orderHere 181 = .ok (.iconst 1, 1) := by decide +kernel
theorem dX6_orderHere_182 : decode cX6_orderHere 182 = .ok (.iadd, 1) := by decide +kernel
theorem dX6_orderHere_183 : decode cX6_orderHere 183 = .ok (.iconst 1, 1) := by decide +kernel
theorem dX6_orderHere_184 : decode cX6_orderHere 184 = .ok (.invokevirtual 198, 3) := by decide +kernel
theorem dX6_orderHere_187 : decode cX6_orderHere 187 = .ok (.ifCond .eq 18, 3) := by decide +kernel
theorem dX6_orderHere_190 : decode cX6_orderHere 190 = .ok (.aload_n 0, 1) := by decide +kernel
theorem dX6_orderHere_191 : decode cX6_orderHere 191 = .ok (.iload_n 1, 1) := by decide +kernel
theorem dX6_orderHere_192 : decode cX6_orderHere 192 = .ok (.iconst 2, 1) := by decide +kernel
theorem dX6_orderHere_193 : decode cX6_orderHere 193 = .ok (.iadd, 1) := by decide +kernel
theorem dX6_orderHere_194 : decode cX6_orderHere 194 = .ok (.iconst 1, 1) := by decide +kernel
theorem dX6_orderHere_195 : decode cX6_orderHere 195 = .ok (.invokevirtual 198, 3) := by decide +kernel
theorem dX6_orderHere_198 : decode cX6_orderHere 198 = .ok (.ifCond .eq 7, 3) := by decide +kernel
theorem dX6_orderHere_201 : decode cX6_orderHere 201 = .ok (.iconst 1, 1) := by decide +kernel
theorem dX6_orderHere_202 : decode cX6_orderHere 202 = .ok (.goto 4, 3) := by decide +kernel
theorem dX6_orderHere_205 : decode cX6_orderHere 205 = .ok (.iconst 0, 1) := by decide +kernel
theorem dX6_orderHere_206 : decode cX6_orderHere 206 = .ok (.ireturn, 1) := by decide +kernel
theorem dX6_orderHere_207 : decode cX6_orderHere 207 = .ok (.aload_n 0, 1) := by decide +kernel
theorem dX6_orderHere_208 : decode cX6_orderHere 208 = .ok (.bipush 120, 2) := by decide +kernel
theorem dX6_orderHere_210 : decode cX6_orderHere 210 = .ok (.invokevirtual 195, 3) := by decide +kernel
theorem dX6_orderHere_213 : decode cX6_orderHere 213 = .ok (.ifCond .eq 18, 3) := by decide +kernel
theorem dX6_orderHere_216 : decode cX6_orderHere 216 = .ok (.aload_n 0, 1) := by decide +kernel
theorem dX6_orderHere_217 : decode cX6_orderHere 217 = .ok (.iload_n 1, 1) := by decide +kernel
theorem dX6_orderHere_218 : decode cX6_orderHere 218 = .ok (.iconst 1, 1) := by decide +kernel
theorem dX6_orderHere_219 : decode cX6_orderHere 219 = .ok (.iadd, 1) := by decide +kernel
theorem dX6_orderHere_220 : decode cX6_orderHere 220 = .ok (.iconst 1, 1) := by decide +kernel
theorem dX6_orderHere_221 : decode cX6_orderHere 221 = .ok (.invokevirtual 198, 3) := by decide +kernel
theorem dX6_orderHere_224 : decode cX6_orderHere 224 = .ok (.ifCond .eq 7, 3) := by decide +kernel
theorem dX6_orderHere_227 : decode cX6_orderHere 227 = .ok (.iconst 1, 1) := by decide +kernel
theorem dX6_orderHere_228 : decode cX6_orderHere 228 = .ok (.goto 4, 3) := by decide +kernel
theorem dX6_orderHere_231 : decode cX6_orderHere 231 = .ok (.iconst 0, 1) := by decide +kernel
theorem dX6_orderHere_232 : decode cX6_orderHere 232 = .ok (.ireturn, 1) := by decide +kernel
theorem dX6_isText_0 : decode cX6_isText 0 = .ok (.aload_n 0, 1) := by decide +kernel
theorem dX6_isText_1 : decode cX6_isText 1 = .ok (.iconst 0, 1) := by decide +kernel
theorem dX6_isText_2 : decode cX6_isText 2 = .ok (.putfield 186, 3) := by decide +kernel
theorem dX6_isText_5 : decode cX6_isText 5 = .ok (.aload_n 0, 1) := by decide +kernel
theorem dX6_isText_6 : decode cX6_isText 6 = .ok (.iconst 0, 1) := by decide +kernel
theorem dX6_isText_7 : decode cX6_isText 7 = .ok (.putfield 192, 3) := by decide +kernel
theorem dX6_isText_10 : decode cX6_isText 10 = .ok (.aload_n 0, 1) := by decide +kernel
theorem dX6_isText_11 : decode cX6_isText 11 = .ok (.invokevirtual 204, 3) := by decide +kernel
theorem dX6_isText_14 : decode cX6_isText 14 = .ok (.ifCond .ne 5, 3) := by decide +kernel
theorem dX6_isText_17 : decode cX6_isText 17 = .ok (.iconst 0, 1) := by decide +kernel
theorem dX6_isText_18 : decode cX6_isText 18 = .ok (.ireturn, 1) := by decide +kernel
theorem dX6_isText_19 : decode cX6_isText 19 = .ok (.aload_n 0, 1) := by decide +kernel
theorem dX6_isText_20 : decode cX6_isText 20 = .ok (.dup, 1) := by decide +kernel
theorem dX6_isText_21 : decode cX6_isText 21 = .ok (.getfield 192, 3) := by decide +kernel
theorem dX6_isText_24 : decode cX6_isText 24 = .ok (.iconst 1, 1) := by decide +kernel
theorem dX6_isText_25 : decode cX6_isText 25 = .ok (.iadd, 1) := by decide +kernel
theorem dX6_isText_26 : decode cX6_isText 26 = .ok (.putfield 192, 3) := by decide +kernel
theorem dX6_isText_29 : decode cX6_isText 29 = .ok (.aload_n 0, 1) := by decide +kernel
theorem dX6_isText_30 : decode cX6_isText 30 = .ok (.bipush 59, 2) := by decide +kernel
theorem dX6_isText_32 : decode cX6_isText 32 = .ok (.invokevirtual 195, 3) := by decide +kernel
theorem dX6_isText_35 : decode cX6_isText 35 = .ok (.ifCond .ne (-25), 3) := by decide +kernel
theorem dX6_isText_38 : decode cX6_isText 38 = .ok (.aload_n 0, 1) := by decide +kernel
theorem dX6_isText_39 : decode cX6_isText 39 = .ok (.getfield 186, 3) := by decide +kernel
theorem dX6_isText_42 : decode cX6_isText 42 = .ok (.aload_n 0, 1) := by decide +kernel
theorem dX6_isText_43 : decode cX6_isText 43 = .ok (.getfield 183, 3) := by decide +kernel
theorem dX6_isText_46 : decode cX6_isText 46 = .ok (.if_icmp .ne 7, 3) := by decide +kernel
theorem dX6_isText_49 : decode cX6_isText 49 = .ok (.iconst 1, 1) := by decide +kernel
theorem dX6_isText_50 : decode cX6_isText 50 = .ok (.goto 4, 3) := by decide +kernel
theorem dX6_isText_53 : decode cX6_isText 53 = .ok (.iconst 0, 1) := by decide +kernel
theorem dX6_isText_54 : decode cX6_isText 54 = .ok (.ireturn, 1) := by decide +kernel
theorem dX6_carries_0 : decode cX6_carries 0 = .ok (.aload_n 0, 1) := by decide +kernel
theorem dX6_carries_1 : decode cX6_carries 1 = .ok (.getfield 33, 3) := by decide +kernel
theorem dX6_carries_4 : decode cX6_carries 4 = .ok (.iload_n 1, 1) := by decide +kernel
theorem dX6_carries_5 : decode cX6_carries 5 = .ok (.iconst 1, 1) := by decide +kernel
theorem dX6_carries_6 : decode cX6_carries 6 = .ok (.iadd, 1) := by decide +kernel
theorem dX6_carries_7 : decode cX6_carries 7 = .ok (.iaload, 1) := by decide +kernel
theorem dX6_carries_8 : decode cX6_carries 8 = .ok (.istore_n 2, 1) := by decide +kernel
theorem dX6_carries_9 : decode cX6_carries 9 = .ok (.aload_n 0, 1) := by decide +kernel
theorem dX6_carries_10 : decode cX6_carries 10 = .ok (.getfield 33, 3) := by decide +kernel
theorem dX6_carries_13 : decode cX6_carries 13 = .ok (.iload_n 1, 1) := by decide +kernel
theorem dX6_carries_14 : decode cX6_carries 14 = .ok (.iconst 2, 1) := by decide +kernel
theorem dX6_carries_15 : decode cX6_carries 15 = .ok (.iadd, 1) := by decide +kernel
theorem dX6_carries_16 : decode cX6_carries 16 = .ok (.iaload, 1) := by decide +kernel
theorem dX6_carries_17 : decode cX6_carries 17 = .ok (.istore_n 3, 1) := by decide +kernel
theorem dX6_carries_18 : decode cX6_carries 18 = .ok (.aload_n 0, 1) := by decide +kernel
theorem dX6_carries_19 : decode cX6_carries 19 = .ok (.getfield 33, 3) := by decide +kernel
theorem dX6_carries_22 : decode cX6_carries 22 = .ok (.iload_n 1, 1) := by decide +kernel
theorem dX6_carries_23 : decode cX6_carries 23 = .ok (.iaload, 1) := by decide +kernel
theorem dX6_carries_24 : decode cX6_carries 24 = .ok (.tableswitch 168 99 120 #[143, 168, 163, 168, 168, 104, 168, 168, 168, 136, 117, 168, 168, 168, 168, 150, 110, 168, 168, 168, 168, 157], 104) := by decide +kernel
theorem dX6_carries_128 : decode cX6_carries 128 = .ok (.aload_n 0, 1) := by decide +kernel
theorem dX6_carries_129 : decode cX6_carries 129 = .ok (.iload_n 2, 1) := by decide +kernel
theorem dX6_carries_130 : decode cX6_carries 130 = .ok (.invokevirtual 208, 3) := by decide +kernel
theorem dX6_carries_133 : decode cX6_carries 133 = .ok (.ireturn, 1) := by decide +kernel
theorem dX6_carries_134 : decode cX6_carries 134 = .ok (.aload_n 0, 1) := by decide +kernel
theorem dX6_carries_135 : decode cX6_carries 135 = .ok (.iload_n 2, 1) := by decide +kernel
theorem dX6_carries_136 : decode cX6_carries 136 = .ok (.iload_n 3, 1) := by decide +kernel
theorem dX6_carries_137 : decode cX6_carries 137 = .ok (.invokevirtual 211, 3) := by decide +kernel
theorem dX6_carries_140 : decode cX6_carries 140 = .ok (.ireturn, 1) := by decide +kernel
theorem dX6_carries_141 : decode cX6_carries 141 = .ok (.aload_n 0, 1) := by decide +kernel
theorem dX6_carries_142 : decode cX6_carries 142 = .ok (.iload_n 2, 1) := by decide +kernel
theorem dX6_carries_143 : decode cX6_carries 143 = .ok (.iload_n 3, 1) := by decide +kernel
theorem dX6_carries_144 : decode cX6_carries 144 = .ok (.bipush 96, 2) := by decide +kernel
theorem dX6_carries_146 : decode cX6_carries 146 = .ok (.aload_n 0, 1) := by decide +kernel
theorem dX6_carries_147 : decode cX6_carries 147 = .ok (.getfield 33, 3) := by decide +kernel
theorem dX6_carries_150 : decode cX6_carries 150 = .ok (.iload_n 1, 1) := by decide +kernel
theorem dX6_carries_151 : decode cX6_carries 151 = .ok (.iconst 3, 1) := by decide +kernel
theorem dX6_carries_152 : decode cX6_carries 152 = .ok (.iadd, 1) := by decide +kernel
theorem dX6_carries_153 : decode cX6_carries 153 = .ok (.iaload, 1) := by decide +kernel
theorem dX6_carries_154 : decode cX6_carries 154 = .ok (.iadd, 1) := by decide +kernel
theorem dX6_carries_155 : decode cX6_carries 155 = .ok (.i2c, 1) := by decide +kernel
theorem dX6_carries_156 : decode cX6_carries 156 = .ok (.invokevirtual 214, 3) := by decide +kernel
theorem dX6_carries_159 : decode cX6_carries 159 = .ok (.ireturn, 1) := by decide +kernel
theorem dX6_carries_160 : decode cX6_carries 160 = .ok (.aload_n 0, 1) := by decide +kernel
theorem dX6_carries_161 : decode cX6_carries 161 = .ok (.iload_n 2, 1) := by decide +kernel
theorem dX6_carries_162 : decode cX6_carries 162 = .ok (.iload_n 3, 1) := by decide +kernel
theorem dX6_carries_163 : decode cX6_carries 163 = .ok (.invokevirtual 218, 3) := by decide +kernel
theorem dX6_carries_166 : decode cX6_carries 166 = .ok (.ireturn, 1) := by decide +kernel
theorem dX6_carries_167 : decode cX6_carries 167 = .ok (.aload_n 0, 1) := by decide +kernel
theorem dX6_carries_168 : decode cX6_carries 168 = .ok (.iload_n 2, 1) := by decide +kernel
theorem dX6_carries_169 : decode cX6_carries 169 = .ok (.iload_n 3, 1) := by decide +kernel
theorem dX6_carries_170 : decode cX6_carries 170 = .ok (.invokevirtual 221, 3) := by decide +kernel
theorem dX6_carries_173 : decode cX6_carries 173 = .ok (.ireturn, 1) := by decide +kernel
theorem dX6_carries_174 : decode cX6_carries 174 = .ok (.aload_n 0, 1) := by decide +kernel
theorem dX6_carries_175 : decode cX6_carries 175 = .ok (.iload_n 2, 1) := by decide +kernel
theorem dX6_carries_176 : decode cX6_carries 176 = .ok (.iload_n 3, 1) := by decide +kernel
theorem dX6_carries_177 : decode cX6_carries 177 = .ok (.invokevirtual 224, 3) := by decide +kernel
theorem dX6_carries_180 : decode cX6_carries 180 = .ok (.ireturn, 1) := by decide +kernel
theorem dX6_carries_181 : decode cX6_carries 181 = .ok (.aload_n 0, 1) := by decide +kernel
theorem dX6_carries_182 : decode cX6_carries 182 = .ok (.iload_n 2, 1) := by decide +kernel
theorem dX6_carries_183 : decode cX6_carries 183 = .ok (.invokevirtual 227, 3) := by decide +kernel
theorem dX6_carries_186 : decode cX6_carries 186 = .ok (.ireturn, 1) := by decide +kernel
theorem dX6_carries_187 : decode cX6_carries 187 = .ok (.aload_n 0, 1) := by decide +kernel
theorem dX6_carries_188 : decode cX6_carries 188 = .ok (.invokevirtual 230, 3) := by decide +kernel
theorem dX6_carries_191 : decode cX6_carries 191 = .ok (.ireturn, 1) := by decide +kernel
theorem dX6_carries_192 : decode cX6_carries 192 = .ok (.aload_n 0, 1) := by decide +kernel
theorem dX6_carries_193 : decode cX6_carries 193 = .ok (.invokevirtual 233, 3) := by decide +kernel
theorem dX6_carries_196 : decode cX6_carries 196 = .ok (.ireturn, 1) := by decide +kernel
theorem dX6_refusesRun_0 : decode cX6_refusesRun 0 = .ok (.aload_n 0, 1) := by decide +kernel
theorem dX6_refusesRun_1 : decode cX6_refusesRun 1 = .ok (.getfield 43, 3) := by decide +kernel
theorem dX6_refusesRun_4 : decode cX6_refusesRun 4 = .ok (.istore_n 2, 1) := by decide +kernel
theorem dX6_refusesRun_5 : decode cX6_refusesRun 5 = .ok (.aload_n 0, 1) := by decide +kernel
theorem dX6_refusesRun_6 : decode cX6_refusesRun 6 = .ok (.getfield 46, 3) := by decide +kernel
theorem dX6_refusesRun_9 : decode cX6_refusesRun 9 = .ok (.istore_n 3, 1) := by decide +kernel
theorem dX6_refusesRun_10 : decode cX6_refusesRun 10 = .ok (.aload_n 0, 1) := by decide +kernel
theorem dX6_refusesRun_11 : decode cX6_refusesRun 11 = .ok (.iconst 2, 1) := by decide +kernel
theorem dX6_refusesRun_12 : decode cX6_refusesRun 12 = .ok (.bipush 9, 2) := by decide +kernel
theorem dX6_refusesRun_14 : decode cX6_refusesRun 14 = .ok (.iload_n 1, 1) := by decide +kernel
theorem dX6_refusesRun_15 : decode cX6_refusesRun 15 = .ok (.invokevirtual 89, 3) := by decide +kernel
theorem dX6_refusesRun_18 : decode cX6_refusesRun 18 = .ok (.pop, 1) := by decide +kernel
theorem dX6_refusesRun_19 : decode cX6_refusesRun 19 = .ok (.aload_n 0, 1) := by decide +kernel
theorem dX6_refusesRun_20 : decode cX6_refusesRun 20 = .ok (.iload_n 2, 1) := by decide +kernel
theorem dX6_refusesRun_21 : decode cX6_refusesRun 21 = .ok (.putfield 49, 3) := by decide +kernel
theorem dX6_refusesRun_24 : decode cX6_refusesRun 24 = .ok (.aload_n 0, 1) := by decide +kernel
theorem dX6_refusesRun_25 : decode cX6_refusesRun 25 = .ok (.iload_n 3, 1) := by decide +kernel
theorem dX6_refusesRun_26 : decode cX6_refusesRun 26 = .ok (.putfield 52, 3) := by decide +kernel
theorem dX6_refusesRun_29 : decode cX6_refusesRun 29 = .ok (.iconst 0, 1) := by decide +kernel
theorem dX6_refusesRun_30 : decode cX6_refusesRun 30 = .ok (.ireturn, 1) := by decide +kernel
theorem dX6_run_0 : decode cX6_run 0 = .ok (.aload_n 0, 1) := by decide +kernel
theorem dX6_run_1 : decode cX6_run 1 = .ok (.invokevirtual 236, 3) := by decide +kernel
theorem dX6_run_4 : decode cX6_run 4 = .ok (.istore_n 1, 1) := by decide +kernel
theorem dX6_run_5 : decode cX6_run 5 = .ok (.aload_n 0, 1) := by decide +kernel
theorem dX6_run_6 : decode cX6_run 6 = .ok (.iload_n 1, 1) := by decide +kernel
theorem dX6_run_7 : decode cX6_run 7 = .ok (.ifCond .eq 7, 3) := by decide +kernel
theorem dX6_run_10 : decode cX6_run 10 = .ok (.iconst (-1), 1) := by decide +kernel
theorem dX6_run_11 : decode cX6_run 11 = .ok (.goto 7, 3) := by decide +kernel
theorem dX6_run_14 : decode cX6_run 14 = .ok (.aload_n 0, 1) := by decide +kernel
theorem dX6_run_15 : decode cX6_run 15 = .ok (.getfield 186, 3) := by decide +kernel
theorem dX6_run_18 : decode cX6_run 18 = .ok (.putfield 25, 3) := by decide +kernel
theorem dX6_run_21 : decode cX6_run 21 = .ok (.aload_n 0, 1) := by decide +kernel
theorem dX6_run_22 : decode cX6_run 22 = .ok (.iconst 0, 1) := by decide +kernel
theorem dX6_run_23 : decode cX6_run 23 = .ok (.putfield 183, 3) := by decide +kernel
theorem dX6_run_26 : decode cX6_run 26 = .ok (.aload_n 0, 1) := by decide +kernel
theorem dX6_run_27 : decode cX6_run 27 = .ok (.iload_n 1, 1) := by decide +kernel
theorem dX6_run_28 : decode cX6_run 28 = .ok (.ifCond .eq 7, 3) := by decide +kernel
theorem dX6_run_31 : decode cX6_run 31 = .ok (.iconst 0, 1) := by decide +kernel
theorem dX6_run_32 : decode cX6_run 32 = .ok (.goto 4, 3) := by decide +kernel
theorem dX6_run_35 : decode cX6_run 35 = .ok (.iconst 1, 1) := by decide +kernel
theorem dX6_run_36 : decode cX6_run 36 = .ok (.invokevirtual 86, 3) := by decide +kernel
theorem dX6_run_39 : decode cX6_run 39 = .ok (.ifCond .eq 5, 3) := by decide +kernel
theorem dX6_run_42 : decode cX6_run 42 = .ok (.iconst 0, 1) := by decide +kernel
theorem dX6_run_43 : decode cX6_run 43 = .ok (.ireturn, 1) := by decide +kernel
theorem dX6_run_44 : decode cX6_run 44 = .ok (.aload_n 0, 1) := by decide +kernel
theorem dX6_run_45 : decode cX6_run 45 = .ok (.getfield 7, 3) := by decide +kernel
theorem dX6_run_48 : decode cX6_run 48 = .ok (.iconst 0, 1) := by decide +kernel
theorem dX6_run_49 : decode cX6_run 49 = .ok (.aload_n 0, 1) := by decide +kernel
theorem dX6_run_50 : decode cX6_run 50 = .ok (.getfield 19, 3) := by decide +kernel
theorem dX6_run_53 : decode cX6_run 53 = .ok (.iconst 0, 1) := by decide +kernel
theorem dX6_run_54 : decode cX6_run 54 = .ok (.invokestatic 61, 3) := by decide +kernel
theorem dX6_run_57 : decode cX6_run 57 = .ok (.aload_n 0, 1) := by decide +kernel
theorem dX6_run_58 : decode cX6_run 58 = .ok (.iconst 1, 1) := by decide +kernel
theorem dX6_run_59 : decode cX6_run 59 = .ok (.putfield 55, 3) := by decide +kernel
theorem dX6_run_62 : decode cX6_run 62 = .ok (.iconst 0, 1) := by decide +kernel
theorem dX6_run_63 : decode cX6_run 63 = .ok (.istore_n 2, 1) := by decide +kernel
theorem dX6_run_64 : decode cX6_run 64 = .ok (.iconst 0, 1) := by decide +kernel
theorem dX6_run_65 : decode cX6_run 65 = .ok (.istore_n 3, 1) := by decide +kernel
theorem dX6_run_66 : decode cX6_run 66 = .ok (.iload_n 2, 1) := by decide +kernel
theorem dX6_run_67 : decode cX6_run 67 = .ok (.aload_n 0, 1) := by decide +kernel
theorem dX6_run_68 : decode cX6_run 68 = .ok (.getfield 192, 3) := by decide +kernel
theorem dX6_run_71 : decode cX6_run 71 = .ok (.if_icmp .ge 31, 3) := by decide +kernel
theorem dX6_run_74 : decode cX6_run 74 = .ok (.aload_n 0, 1) := by decide +kernel
theorem dX6_run_75 : decode cX6_run 75 = .ok (.getfield 36, 3) := by decide +kernel
theorem dX6_run_78 : decode cX6_run 78 = .ok (.ifCond .ne 24, 3) := by decide +kernel
theorem dX6_run_81 : decode cX6_run 81 = .ok (.aload_n 0, 1) := by decide +kernel
theorem dX6_run_82 : decode cX6_run 82 = .ok (.iconst 4, 1) := by decide +kernel
theorem dX6_run_83 : decode cX6_run 83 = .ok (.iload_n 2, 1) := by decide +kernel
theorem dX6_run_84 : decode cX6_run 84 = .ok (.imul, 1) := by decide +kernel
theorem dX6_run_85 : decode cX6_run 85 = .ok (.invokevirtual 239, 3) := by decide +kernel
theorem dX6_run_88 : decode cX6_run 88 = .ok (.istore_n 3, 1) := by decide +kernel
theorem dX6_run_89 : decode cX6_run 89 = .ok (.aload_n 0, 1) := by decide +kernel
theorem dX6_run_90 : decode cX6_run 90 = .ok (.getfield 36, 3) := by decide +kernel
theorem dX6_run_93 : decode cX6_run 93 = .ok (.ifCond .ne (-27), 3) := by decide +kernel
theorem dX6_run_96 : decode cX6_run 96 = .ok (.iinc 2 1, 3) := by decide +kernel
theorem dX6_run_99 : decode cX6_run 99 = .ok (.goto (-33), 3) := by decide +kernel
theorem dX6_run_102 : decode cX6_run 102 = .ok (.aload_n 0, 1) := by decide +kernel
theorem dX6_run_103 : decode cX6_run 103 = .ok (.iconst 0, 1) := by decide +kernel
theorem dX6_run_104 : decode cX6_run 104 = .ok (.putfield 55, 3) := by decide +kernel
theorem dX6_run_107 : decode cX6_run 107 = .ok (.aload_n 0, 1) := by decide +kernel
theorem dX6_run_108 : decode cX6_run 108 = .ok (.getfield 36, 3) := by decide +kernel
theorem dX6_run_111 : decode cX6_run 111 = .ok (.ifCond .le 44, 3) := by decide +kernel
theorem dX6_run_114 : decode cX6_run 114 = .ok (.aload_n 0, 1) := by decide +kernel
theorem dX6_run_115 : decode cX6_run 115 = .ok (.getfield 19, 3) := by decide +kernel
theorem dX6_run_118 : decode cX6_run 118 = .ok (.iconst 0, 1) := by decide +kernel
theorem dX6_run_119 : decode cX6_run 119 = .ok (.aload_n 0, 1) := by decide +kernel
theorem dX6_run_120 : decode cX6_run 120 = .ok (.getfield 7, 3) := by decide +kernel
theorem dX6_run_123 : decode cX6_run 123 = .ok (.iconst 0, 1) := by decide +kernel
theorem dX6_run_124 : decode cX6_run 124 = .ok (.invokestatic 61, 3) := by decide +kernel
theorem dX6_run_127 : decode cX6_run 127 = .ok (.aload_n 0, 1) := by decide +kernel
theorem dX6_run_128 : decode cX6_run 128 = .ok (.getfield 39, 3) := by decide +kernel
theorem dX6_run_131 : decode cX6_run 131 = .ok (.ifCond .eq 9, 3) := by decide +kernel
theorem dX6_run_134 : decode cX6_run 134 = .ok (.aload_n 0, 1) := by decide +kernel
theorem dX6_run_135 : decode cX6_run 135 = .ok (.iload_n 2, 1) := by decide +kernel
theorem dX6_run_136 : decode cX6_run 136 = .ok (.invokevirtual 242, 3) := by decide +kernel
theorem dX6_run_139 : decode cX6_run 139 = .ok (.ireturn, 1) := by decide +kernel
theorem dX6_run_140 : decode cX6_run 140 = .ok (.aload_n 0, 1) := by decide +kernel
theorem dX6_run_141 : decode cX6_run 141 = .ok (.iconst 1, 1) := by decide +kernel
theorem dX6_run_142 : decode cX6_run 142 = .ok (.putfield 36, 3) := by decide +kernel
theorem dX6_run_145 : decode cX6_run 145 = .ok (.iload_n 3, 1) := by decide +kernel
theorem dX6_run_146 : decode cX6_run 146 = .ok (.ifCond .le 7, 3) := by decide +kernel
theorem dX6_run_149 : decode cX6_run 149 = .ok (.iconst 0, 1) := by decide +kernel
theorem dX6_run_150 : decode cX6_run 150 = .ok (.goto 4, 3) := by decide +kernel
theorem dX6_run_153 : decode cX6_run 153 = .ok (.iload_n 3, 1) := by decide +kernel
theorem dX6_run_154 : decode cX6_run 154 = .ok (.ireturn, 1) := by decide +kernel
theorem dX6_run_155 : decode cX6_run 155 = .ok (.aload_n 0, 1) := by decide +kernel
theorem dX6_run_156 : decode cX6_run 156 = .ok (.aload_n 0, 1) := by decide +kernel
theorem dX6_run_157 : decode cX6_run 157 = .ok (.getfield 19, 3) := by decide +kernel
theorem dX6_run_160 : decode cX6_run 160 = .ok (.invokevirtual 93, 3) := by decide +kernel
theorem dX6_run_163 : decode cX6_run 163 = .ok (.aload_n 0, 1) := by decide +kernel
theorem dX6_run_164 : decode cX6_run 164 = .ok (.getfield 192, 3) := by decide +kernel
theorem dX6_run_167 : decode cX6_run 167 = .ok (.ireturn, 1) := by decide +kernel
theorem dX6_errorPosition_0 : decode cX6_errorPosition 0 = .ok (.aload_n 0, 1) := by decide +kernel
theorem dX6_errorPosition_1 : decode cX6_errorPosition 1 = .ok (.iconst 0, 1) := by decide +kernel
theorem dX6_errorPosition_2 : decode cX6_errorPosition 2 = .ok (.putfield 36, 3) := by decide +kernel
theorem dX6_errorPosition_5 : decode cX6_errorPosition 5 = .ok (.aload_n 0, 1) := by decide +kernel
theorem dX6_errorPosition_6 : decode cX6_errorPosition 6 = .ok (.getfield 25, 3) := by decide +kernel
theorem dX6_errorPosition_9 : decode cX6_errorPosition 9 = .ok (.ireturn, 1) := by decide +kernel
theorem dX6_refusal_0 : decode cX6_refusal 0 = .ok (.aload_n 0, 1) := by decide +kernel
theorem dX6_refusal_1 : decode cX6_refusal 1 = .ok (.iload_n 1, 1) := by decide +kernel
theorem dX6_refusal_2 : decode cX6_refusal 2 = .ok (.ifCond .eq 10, 3) := by decide +kernel
theorem dX6_refusal_5 : decode cX6_refusal 5 = .ok (.aload_n 0, 1) := by decide +kernel
theorem dX6_refusal_6 : decode cX6_refusal 6 = .ok (.getfield 49, 3) := by decide +kernel
theorem dX6_refusal_9 : decode cX6_refusal 9 = .ok (.goto 7, 3) := by decide +kernel
theorem dX6_refusal_12 : decode cX6_refusal 12 = .ok (.aload_n 0, 1) := by decide +kernel
theorem dX6_refusal_13 : decode cX6_refusal 13 = .ok (.getfield 43, 3) := by decide +kernel
theorem dX6_refusal_16 : decode cX6_refusal 16 = .ok (.ifCond .ne 7, 3) := by decide +kernel
theorem dX6_refusal_19 : decode cX6_refusal 19 = .ok (.iconst 1, 1) := by decide +kernel
theorem dX6_refusal_20 : decode cX6_refusal 20 = .ok (.goto 4, 3) := by decide +kernel
theorem dX6_refusal_23 : decode cX6_refusal 23 = .ok (.iconst 0, 1) := by decide +kernel
theorem dX6_refusal_24 : decode cX6_refusal 24 = .ok (.invokevirtual 86, 3) := by decide +kernel
theorem dX6_refusal_27 : decode cX6_refusal 27 = .ok (.ifCond .eq 5, 3) := by decide +kernel
theorem dX6_refusal_30 : decode cX6_refusal 30 = .ok (.iconst 0, 1) := by decide +kernel
theorem dX6_refusal_31 : decode cX6_refusal 31 = .ok (.ireturn, 1) := by decide +kernel
theorem dX6_refusal_32 : decode cX6_refusal 32 = .ok (.iload_n 1, 1) := by decide +kernel
theorem dX6_refusal_33 : decode cX6_refusal 33 = .ok (.ifCond .eq 21, 3) := by decide +kernel
theorem dX6_refusal_36 : decode cX6_refusal 36 = .ok (.iload_n 2, 1) := by decide +kernel
theorem dX6_refusal_37 : decode cX6_refusal 37 = .ok (.ifCond .eq 10, 3) := by decide +kernel
theorem dX6_refusal_40 : decode cX6_refusal 40 = .ok (.aload_n 0, 1) := by decide +kernel
theorem dX6_refusal_41 : decode cX6_refusal 41 = .ok (.getfield 52, 3) := by decide +kernel
theorem dX6_refusal_44 : decode cX6_refusal 44 = .ok (.goto 25, 3) := by decide +kernel
theorem dX6_refusal_47 : decode cX6_refusal 47 = .ok (.aload_n 0, 1) := by decide +kernel
theorem dX6_refusal_48 : decode cX6_refusal 48 = .ok (.getfield 49, 3) := by decide +kernel
theorem dX6_refusal_51 : decode cX6_refusal 51 = .ok (.goto 18, 3) := by decide +kernel
theorem dX6_refusal_54 : decode cX6_refusal 54 = .ok (.iload_n 2, 1) := by decide +kernel
theorem dX6_refusal_55 : decode cX6_refusal 55 = .ok (.ifCond .eq 10, 3) := by decide +kernel
theorem dX6_refusal_58 : decode cX6_refusal 58 = .ok (.aload_n 0, 1) := by decide +kernel
theorem dX6_refusal_59 : decode cX6_refusal 59 = .ok (.getfield 46, 3) := by decide +kernel
theorem dX6_refusal_62 : decode cX6_refusal 62 = .ok (.goto 7, 3) := by decide +kernel
theorem dX6_refusal_65 : decode cX6_refusal 65 = .ok (.aload_n 0, 1) := by decide +kernel
theorem dX6_refusal_66 : decode cX6_refusal 66 = .ok (.getfield 43, 3) := by decide +kernel
theorem dX6_refusal_69 : decode cX6_refusal 69 = .ok (.ireturn, 1) := by decide +kernel
theorem dX6_all_0 : decode cX6_all 0 = .ok (.iconst 0, 1) := by decide +kernel
theorem dX6_all_1 : decode cX6_all 1 = .ok (.istore_n 2, 1) := by decide +kernel
theorem dX6_all_2 : decode cX6_all 2 = .ok (.iconst 0, 1) := by decide +kernel
theorem dX6_all_3 : decode cX6_all 3 = .ok (.istore_n 3, 1) := by decide +kernel
theorem dX6_all_4 : decode cX6_all 4 = .ok (.iload_n 3, 1) := by decide +kernel
theorem dX6_all_5 : decode cX6_all 5 = .ok (.aload_n 0, 1) := by decide +kernel
theorem dX6_all_6 : decode cX6_all 6 = .ok (.getfield 7, 3) := by decide +kernel
theorem dX6_all_9 : decode cX6_all 9 = .ok (.iconst 1, 1) := by decide +kernel
theorem dX6_all_10 : decode cX6_all 10 = .ok (.iaload, 1) := by decide +kernel
theorem dX6_all_11 : decode cX6_all 11 = .ok (.if_icmp .ge 18, 3) := by decide +kernel
theorem dX6_all_14 : decode cX6_all 14 = .ok (.iload_n 2, 1) := by decide +kernel
theorem dX6_all_15 : decode cX6_all 15 = .ok (.aload_n 0, 1) := by decide +kernel
theorem dX6_all_16 : decode cX6_all 16 = .ok (.iload_n 3, 1) := by decide +kernel
theorem dX6_all_17 : decode cX6_all 17 = .ok (.iload_n 1, 1) := by decide +kernel
theorem dX6_all_18 : decode cX6_all 18 = .ok (.invokevirtual 118, 3) := by decide +kernel
theorem dX6_all_21 : decode cX6_all 21 = .ok (.iadd, 1) := by decide +kernel
theorem dX6_all_22 : decode cX6_all 22 = .ok (.istore_n 2, 1) := by decide +kernel
theorem dX6_all_23 : decode cX6_all 23 = .ok (.iinc 3 1, 3) := by decide +kernel
theorem dX6_all_26 : decode cX6_all 26 = .ok (.goto (-22), 3) := by decide +kernel
theorem dX6_all_29 : decode cX6_all 29 = .ok (.iload_n 2, 1) := by decide +kernel
theorem dX6_all_30 : decode cX6_all 30 = .ok (.ireturn, 1) := by decide +kernel
theorem dX6_summed_0 : decode cX6_summed 0 = .ok (.iconst 0, 1) := by decide +kernel
theorem dX6_summed_1 : decode cX6_summed 1 = .ok (.istore_n 2, 1) := by decide +kernel
theorem dX6_summed_2 : decode cX6_summed 2 = .ok (.iconst 0, 1) := by decide +kernel
theorem dX6_summed_3 : decode cX6_summed 3 = .ok (.istore_n 3, 1) := by decide +kernel
theorem dX6_summed_4 : decode cX6_summed 4 = .ok (.iload_n 3, 1) := by decide +kernel
theorem dX6_summed_5 : decode cX6_summed 5 = .ok (.aload_n 0, 1) := by decide +kernel
theorem dX6_summed_6 : decode cX6_summed 6 = .ok (.getfield 7, 3) := by decide +kernel
theorem dX6_summed_9 : decode cX6_summed 9 = .ok (.iconst 0, 1) := by decide +kernel
theorem dX6_summed_10 : decode cX6_summed 10 = .ok (.iaload, 1) := by decide +kernel
theorem dX6_summed_11 : decode cX6_summed 11 = .ok (.if_icmp .ge 18, 3) := by decide +kernel
theorem dX6_summed_14 : decode cX6_summed 14 = .ok (.iload_n 2, 1) := by decide +kernel
theorem dX6_summed_15 : decode cX6_summed 15 = .ok (.aload_n 0, 1) := by decide +kernel
theorem dX6_summed_16 : decode cX6_summed 16 = .ok (.iload_n 3, 1) := by decide +kernel
theorem dX6_summed_17 : decode cX6_summed 17 = .ok (.iload_n 1, 1) := by decide +kernel
theorem dX6_summed_18 : decode cX6_summed 18 = .ok (.invokevirtual 65, 3) := by decide +kernel
theorem dX6_summed_21 : decode cX6_summed 21 = .ok (.iadd, 1) := by decide +kernel
theorem dX6_summed_22 : decode cX6_summed 22 = .ok (.istore_n 2, 1) := by decide +kernel
theorem dX6_summed_23 : decode cX6_summed 23 = .ok (.iinc 3 1, 3) := by decide +kernel
theorem dX6_summed_26 : decode cX6_summed 26 = .ok (.goto (-22), 3) := by decide +kernel
theorem dX6_summed_29 : decode cX6_summed 29 = .ok (.iload_n 2, 1) := by decide +kernel
theorem dX6_summed_30 : decode cX6_summed 30 = .ok (.ireturn, 1) := by decide +kernel
theorem dX6_account_0 : decode cX6_account 0 = .ok (.aload_n 0, 1) := by decide +kernel
theorem dX6_account_1 : decode cX6_account 1 = .ok (.iload_n 1, 1) := by decide +kernel
theorem dX6_account_2 : decode cX6_account 2 = .ok (.iconst 0, 1) := by decide +kernel
theorem dX6_account_3 : decode cX6_account 3 = .ok (.bipush 14, 2) := by decide +kernel
theorem dX6_account_5 : decode cX6_account 5 = .ok (.invokestatic 72, 3) := by decide +kernel
theorem dX6_account_8 : decode cX6_account 8 = .ok (.ifCond .eq 7, 3) := by decide +kernel
theorem dX6_account_11 : decode cX6_account 11 = .ok (.iconst 0, 1) := by decide +kernel
theorem dX6_account_12 : decode cX6_account 12 = .ok (.goto 4, 3) := by decide +kernel
theorem dX6_account_15 : decode cX6_account 15 = .ok (.iconst 1, 1) := by decide +kernel
theorem dX6_account_16 : decode cX6_account 16 = .ok (.invokevirtual 86, 3) := by decide +kernel
theorem dX6_account_19 : decode cX6_account 19 = .ok (.ifCond .eq 5, 3) := by decide +kernel
theorem dX6_account_22 : decode cX6_account 22 = .ok (.iconst 0, 1) := by decide +kernel
theorem dX6_account_23 : decode cX6_account 23 = .ok (.ireturn, 1) := by decide +kernel
theorem dX6_account_24 : decode cX6_account 24 = .ok (.iload_n 1, 1) := by decide +kernel
theorem dX6_account_25 : decode cX6_account 25 = .ok (.tableswitch 110 5 14 #[55, 55, 55, 63, 70, 78, 86, 94, 100, 105], 55) := by decide +kernel
theorem dX6_account_80 : decode cX6_account 80 = .ok (.aload_n 0, 1) := by decide +kernel
theorem dX6_account_81 : decode cX6_account 81 = .ok (.iload_n 1, 1) := by decide +kernel
theorem dX6_account_82 : decode cX6_account 82 = .ok (.iconst 4, 1) := by decide +kernel
theorem dX6_account_83 : decode cX6_account 83 = .ok (.isub, 1) := by decide +kernel
theorem dX6_account_84 : decode cX6_account 84 = .ok (.invokevirtual 245, 3) := by decide +kernel
theorem dX6_account_87 : decode cX6_account 87 = .ok (.ireturn, 1) := by decide +kernel
theorem dX6_account_88 : decode cX6_account 88 = .ok (.aload_n 0, 1) := by decide +kernel
theorem dX6_account_89 : decode cX6_account 89 = .ok (.getfield 7, 3) := by decide +kernel
theorem dX6_account_92 : decode cX6_account 92 = .ok (.iconst 5, 1) := by decide +kernel
theorem dX6_account_93 : decode cX6_account 93 = .ok (.iaload, 1) := by decide +kernel
theorem dX6_account_94 : decode cX6_account 94 = .ok (.ireturn, 1) := by decide +kernel
theorem dX6_account_95 : decode cX6_account 95 = .ok (.aload_n 0, 1) := by decide +kernel
theorem dX6_account_96 : decode cX6_account 96 = .ok (.getfield 7, 3) := by decide +kernel
theorem dX6_account_99 : decode cX6_account 99 = .ok (.bipush 6, 2) := by decide +kernel
theorem dX6_account_101 : decode cX6_account 101 = .ok (.iaload, 1) := by decide +kernel
theorem dX6_account_102 : decode cX6_account 102 = .ok (.ireturn, 1) := by decide +kernel
theorem dX6_account_103 : decode cX6_account 103 = .ok (.aload_n 0, 1) := by decide +kernel
theorem dX6_account_104 : decode cX6_account 104 = .ok (.getfield 7, 3) := by decide +kernel
theorem dX6_account_107 : decode cX6_account 107 = .ok (.bipush 7, 2) := by decide +kernel
theorem dX6_account_109 : decode cX6_account 109 = .ok (.iaload, 1) := by decide +kernel
theorem dX6_account_110 : decode cX6_account 110 = .ok (.ireturn, 1) := by decide +kernel
theorem dX6_account_111 : decode cX6_account 111 = .ok (.aload_n 0, 1) := by decide +kernel
theorem dX6_account_112 : decode cX6_account 112 = .ok (.getfield 7, 3) := by decide +kernel
theorem dX6_account_115 : decode cX6_account 115 = .ok (.bipush 8, 2) := by decide +kernel
theorem dX6_account_117 : decode cX6_account 117 = .ok (.iaload, 1) := by decide +kernel
theorem dX6_account_118 : decode cX6_account 118 = .ok (.ireturn, 1) := by decide +kernel
theorem dX6_account_119 : decode cX6_account 119 = .ok (.aload_n 0, 1) := by decide +kernel
theorem dX6_account_120 : decode cX6_account 120 = .ok (.iconst 0, 1) := by decide +kernel
theorem dX6_account_121 : decode cX6_account 121 = .ok (.invokevirtual 248, 3) := by decide +kernel
theorem dX6_account_124 : decode cX6_account 124 = .ok (.ireturn, 1) := by decide +kernel
theorem dX6_account_125 : decode cX6_account 125 = .ok (.aload_n 0, 1) := by decide +kernel
theorem dX6_account_126 : decode cX6_account 126 = .ok (.getfield 183, 3) := by decide +kernel
theorem dX6_account_129 : decode cX6_account 129 = .ok (.ireturn, 1) := by decide +kernel
theorem dX6_account_130 : decode cX6_account 130 = .ok (.aload_n 0, 1) := by decide +kernel
theorem dX6_account_131 : decode cX6_account 131 = .ok (.getfield 58, 3) := by decide +kernel
theorem dX6_account_134 : decode cX6_account 134 = .ok (.ireturn, 1) := by decide +kernel
theorem dX6_account_135 : decode cX6_account 135 = .ok (.aload_n 0, 1) := by decide +kernel
theorem dX6_account_136 : decode cX6_account 136 = .ok (.getfield 7, 3) := by decide +kernel
theorem dX6_account_139 : decode cX6_account 139 = .ok (.iload_n 1, 1) := by decide +kernel
theorem dX6_account_140 : decode cX6_account 140 = .ok (.iaload, 1) := by decide +kernel
theorem dX6_account_141 : decode cX6_account 141 = .ok (.ireturn, 1) := by decide +kernel
theorem dX6_isWell_0 : decode cX6_isWell 0 = .ok (.aload_n 0, 1) := by decide +kernel
theorem dX6_isWell_1 : decode cX6_isWell 1 = .ok (.iconst 0, 1) := by decide +kernel
theorem dX6_isWell_2 : decode cX6_isWell 2 = .ok (.putfield 36, 3) := by decide +kernel
theorem dX6_isWell_5 : decode cX6_isWell 5 = .ok (.iconst 0, 1) := by decide +kernel
theorem dX6_isWell_6 : decode cX6_isWell 6 = .ok (.istore_n 1, 1) := by decide +kernel
theorem dX6_isWell_7 : decode cX6_isWell 7 = .ok (.iload_n 1, 1) := by decide +kernel
theorem dX6_isWell_8 : decode cX6_isWell 8 = .ok (.aload_n 0, 1) := by decide +kernel
theorem dX6_isWell_9 : decode cX6_isWell 9 = .ok (.getfield 7, 3) := by decide +kernel
theorem dX6_isWell_12 : decode cX6_isWell 12 = .ok (.iconst 1, 1) := by decide +kernel
theorem dX6_isWell_13 : decode cX6_isWell 13 = .ok (.iaload, 1) := by decide +kernel
theorem dX6_isWell_14 : decode cX6_isWell 14 = .ok (.if_icmp .ge 60, 3) := by decide +kernel
theorem dX6_isWell_17 : decode cX6_isWell 17 = .ok (.iconst 0, 1) := by decide +kernel
theorem dX6_isWell_18 : decode cX6_isWell 18 = .ok (.istore_n 2, 1) := by decide +kernel
theorem dX6_isWell_19 : decode cX6_isWell 19 = .ok (.iload_n 2, 1) := by decide +kernel
theorem dX6_isWell_20 : decode cX6_isWell 20 = .ok (.aload_n 0, 1) := by decide +kernel
theorem dX6_isWell_21 : decode cX6_isWell 21 = .ok (.iload_n 1, 1) := by decide +kernel
theorem dX6_isWell_22 : decode cX6_isWell 22 = .ok (.iconst 1, 1) := by decide +kernel
theorem dX6_isWell_23 : decode cX6_isWell 23 = .ok (.invokevirtual 80, 3) := by decide +kernel
theorem dX6_isWell_26 : decode cX6_isWell 26 = .ok (.if_icmp .ge 42, 3) := by decide +kernel
theorem dX6_isWell_29 : decode cX6_isWell 29 = .ok (.aload_n 0, 1) := by decide +kernel
theorem dX6_isWell_30 : decode cX6_isWell 30 = .ok (.iload_n 1, 1) := by decide +kernel
theorem dX6_isWell_31 : decode cX6_isWell 31 = .ok (.iload_n 2, 1) := by decide +kernel
theorem dX6_isWell_32 : decode cX6_isWell 32 = .ok (.invokevirtual 111, 3) := by decide +kernel
theorem dX6_isWell_35 : decode cX6_isWell 35 = .ok (.ifCond .le 7, 3) := by decide +kernel
theorem dX6_isWell_38 : decode cX6_isWell 38 = .ok (.iconst 1, 1) := by decide +kernel
theorem dX6_isWell_39 : decode cX6_isWell 39 = .ok (.goto 4, 3) := by decide +kernel
theorem dX6_isWell_42 : decode cX6_isWell 42 = .ok (.iconst 0, 1) := by decide +kernel
theorem dX6_isWell_43 : decode cX6_isWell 43 = .ok (.aload_n 0, 1) := by decide +kernel
theorem dX6_isWell_44 : decode cX6_isWell 44 = .ok (.iload_n 1, 1) := by decide +kernel
theorem dX6_isWell_45 : decode cX6_isWell 45 = .ok (.iload_n 2, 1) := by decide +kernel
theorem dX6_isWell_46 : decode cX6_isWell 46 = .ok (.invokevirtual 130, 3) := by decide +kernel
theorem dX6_isWell_49 : decode cX6_isWell 49 = .ok (.ifCond .le 7, 3) := by decide +kernel
theorem dX6_isWell_52 : decode cX6_isWell 52 = .ok (.iconst 1, 1) := by decide +kernel
theorem dX6_isWell_53 : decode cX6_isWell 53 = .ok (.goto 4, 3) := by decide +kernel
theorem dX6_isWell_56 : decode cX6_isWell 56 = .ok (.iconst 0, 1) := by decide +kernel
theorem dX6_isWell_57 : decode cX6_isWell 57 = .ok (.if_icmp .eq 5, 3) := by decide +kernel
theorem dX6_isWell_60 : decode cX6_isWell 60 = .ok (.iconst 0, 1) := by decide +kernel
theorem dX6_isWell_61 : decode cX6_isWell 61 = .ok (.ireturn, 1) := by decide +kernel
theorem dX6_isWell_62 : decode cX6_isWell 62 = .ok (.iinc 2 1, 3) := by decide +kernel
theorem dX6_isWell_65 : decode cX6_isWell 65 = .ok (.goto (-46), 3) := by decide +kernel
theorem dX6_isWell_68 : decode cX6_isWell 68 = .ok (.iinc 1 1, 3) := by decide +kernel
theorem dX6_isWell_71 : decode cX6_isWell 71 = .ok (.goto (-64), 3) := by decide +kernel
theorem dX6_isWell_74 : decode cX6_isWell 74 = .ok (.iconst 1, 1) := by decide +kernel
theorem dX6_isWell_75 : decode cX6_isWell 75 = .ok (.ireturn, 1) := by decide +kernel
theorem dX6_meanShame_0 : decode cX6_meanShame 0 = .ok (.aload_n 0, 1) := by decide +kernel
theorem dX6_meanShame_1 : decode cX6_meanShame 1 = .ok (.aload_n 0, 1) := by decide +kernel
theorem dX6_meanShame_2 : decode cX6_meanShame 2 = .ok (.getfield 7, 3) := by decide +kernel
theorem dX6_meanShame_5 : decode cX6_meanShame 5 = .ok (.iconst 0, 1) := by decide +kernel
theorem dX6_meanShame_6 : decode cX6_meanShame 6 = .ok (.iaload, 1) := by decide +kernel
theorem dX6_meanShame_7 : decode cX6_meanShame 7 = .ok (.ifCond .ne 7, 3) := by decide +kernel
theorem dX6_meanShame_10 : decode cX6_meanShame 10 = .ok (.iconst 1, 1) := by decide +kernel
theorem dX6_meanShame_11 : decode cX6_meanShame 11 = .ok (.goto 4, 3) := by decide +kernel
theorem dX6_meanShame_14 : decode cX6_meanShame 14 = .ok (.iconst 0, 1) := by decide +kernel
theorem dX6_meanShame_15 : decode cX6_meanShame 15 = .ok (.invokevirtual 86, 3) := by decide +kernel
theorem dX6_meanShame_18 : decode cX6_meanShame 18 = .ok (.ifCond .eq 7, 3) := by decide +kernel
theorem dX6_meanShame_21 : decode cX6_meanShame 21 = .ok (.dconst 0, 1) := by decide +kernel
theorem dX6_meanShame_22 : decode cX6_meanShame 22 = .ok (.goto 17, 3) := by decide +kernel
theorem dX6_meanShame_25 : decode cX6_meanShame 25 = .ok (.aload_n 0, 1) := by decide +kernel
theorem dX6_meanShame_26 : decode cX6_meanShame 26 = .ok (.iconst 1, 1) := by decide +kernel
theorem dX6_meanShame_27 : decode cX6_meanShame 27 = .ok (.invokevirtual 248, 3) := by decide +kernel
theorem dX6_meanShame_30 : decode cX6_meanShame 30 = .ok (.i2d, 1) := by decide +kernel
theorem dX6_meanShame_31 : decode cX6_meanShame 31 = .ok (.aload_n 0, 1) := by decide +kernel
theorem dX6_meanShame_32 : decode cX6_meanShame 32 = .ok (.getfield 7, 3) := by decide +kernel
theorem dX6_meanShame_35 : decode cX6_meanShame 35 = .ok (.iconst 0, 1) := by decide +kernel
theorem dX6_meanShame_36 : decode cX6_meanShame 36 = .ok (.iaload, 1) := by decide +kernel
theorem dX6_meanShame_37 : decode cX6_meanShame 37 = .ok (.i2d, 1) := by decide +kernel
theorem dX6_meanShame_38 : decode cX6_meanShame 38 = .ok (.ddiv, 1) := by decide +kernel
theorem dX6_meanShame_39 : decode cX6_meanShame 39 = .ok (.dreturn, 1) := by decide +kernel
theorem dX6_errorShare_0 : decode cX6_errorShare 0 = .ok (.aload_n 0, 1) := by decide +kernel
theorem dX6_errorShare_1 : decode cX6_errorShare 1 = .ok (.aload_n 0, 1) := by decide +kernel
theorem dX6_errorShare_2 : decode cX6_errorShare 2 = .ok (.getfield 7, 3) := by decide +kernel
theorem dX6_errorShare_5 : decode cX6_errorShare 5 = .ok (.iconst 1, 1) := by decide +kernel
theorem dX6_errorShare_6 : decode cX6_errorShare 6 = .ok (.iaload, 1) := by decide +kernel
theorem dX6_errorShare_7 : decode cX6_errorShare 7 = .ok (.ifCond .ne 7, 3) := by decide +kernel
theorem dX6_errorShare_10 : decode cX6_errorShare 10 = .ok (.iconst 1, 1) := by decide +kernel
theorem dX6_errorShare_11 : decode cX6_errorShare 11 = .ok (.goto 4, 3) := by decide +kernel
theorem dX6_errorShare_14 : decode cX6_errorShare 14 = .ok (.iconst 0, 1) := by decide +kernel
theorem dX6_errorShare_15 : decode cX6_errorShare 15 = .ok (.invokevirtual 86, 3) := by decide +kernel
theorem dX6_errorShare_18 : decode cX6_errorShare 18 = .ok (.ifCond .eq 5, 3) := by decide +kernel
theorem dX6_errorShare_21 : decode cX6_errorShare 21 = .ok (.fconst 0, 1) := by decide +kernel
theorem dX6_errorShare_22 : decode cX6_errorShare 22 = .ok (.freturn, 1) := by decide +kernel
theorem dX6_errorShare_23 : decode cX6_errorShare 23 = .ok (.iconst 0, 1) := by decide +kernel
theorem dX6_errorShare_24 : decode cX6_errorShare 24 = .ok (.istore_n 1, 1) := by decide +kernel
theorem dX6_errorShare_25 : decode cX6_errorShare 25 = .ok (.iconst 0, 1) := by decide +kernel
theorem dX6_errorShare_26 : decode cX6_errorShare 26 = .ok (.istore_n 2, 1) := by decide +kernel
theorem dX6_errorShare_27 : decode cX6_errorShare 27 = .ok (.iload_n 2, 1) := by decide +kernel
theorem dX6_errorShare_28 : decode cX6_errorShare 28 = .ok (.aload_n 0, 1) := by decide +kernel
theorem dX6_errorShare_29 : decode cX6_errorShare 29 = .ok (.getfield 7, 3) := by decide +kernel
theorem dX6_errorShare_32 : decode cX6_errorShare 32 = .ok (.iconst 1, 1) := by decide +kernel
theorem dX6_errorShare_33 : decode cX6_errorShare 33 = .ok (.iaload, 1) := by decide +kernel
theorem dX6_errorShare_34 : decode cX6_errorShare 34 = .ok (.if_icmp .ge 18, 3) := by decide +kernel
theorem dX6_errorShare_37 : decode cX6_errorShare 37 = .ok (.iload_n 1, 1) := by decide +kernel
theorem dX6_errorShare_38 : decode cX6_errorShare 38 = .ok (.aload_n 0, 1) := by decide +kernel
theorem dX6_errorShare_39 : decode cX6_errorShare 39 = .ok (.iload_n 2, 1) := by decide +kernel
theorem dX6_errorShare_40 : decode cX6_errorShare 40 = .ok (.iconst 1, 1) := by decide +kernel
theorem dX6_errorShare_41 : decode cX6_errorShare 41 = .ok (.invokevirtual 80, 3) := by decide +kernel
theorem dX6_errorShare_44 : decode cX6_errorShare 44 = .ok (.iadd, 1) := by decide +kernel
theorem dX6_errorShare_45 : decode cX6_errorShare 45 = .ok (.istore_n 1, 1) := by decide +kernel
theorem dX6_errorShare_46 : decode cX6_errorShare 46 = .ok (.iinc 2 1, 3) := by decide +kernel
theorem dX6_errorShare_49 : decode cX6_errorShare 49 = .ok (.goto (-22), 3) := by decide +kernel
theorem dX6_errorShare_52 : decode cX6_errorShare 52 = .ok (.aload_n 0, 1) := by decide +kernel
theorem dX6_errorShare_53 : decode cX6_errorShare 53 = .ok (.iconst 1, 1) := by decide +kernel
theorem dX6_errorShare_54 : decode cX6_errorShare 54 = .ok (.invokevirtual 245, 3) := by decide +kernel
theorem dX6_errorShare_57 : decode cX6_errorShare 57 = .ok (.i2f, 1) := by decide +kernel
theorem dX6_errorShare_58 : decode cX6_errorShare 58 = .ok (.iload_n 1, 1) := by decide +kernel
theorem dX6_errorShare_59 : decode cX6_errorShare 59 = .ok (.i2f, 1) := by decide +kernel
theorem dX6_errorShare_60 : decode cX6_errorShare 60 = .ok (.fdiv, 1) := by decide +kernel
theorem dX6_errorShare_61 : decode cX6_errorShare 61 = .ok (.freturn, 1) := by decide +kernel
theorem dX6_undo_0 : decode cX6_undo 0 = .ok (.aload_n 0, 1) := by decide +kernel
theorem dX6_undo_1 : decode cX6_undo 1 = .ok (.aload_n 0, 1) := by decide +kernel
theorem dX6_undo_2 : decode cX6_undo 2 = .ok (.getfield 58, 3) := by decide +kernel
theorem dX6_undo_5 : decode cX6_undo 5 = .ok (.ifCond .ne 7, 3) := by decide +kernel
theorem dX6_undo_8 : decode cX6_undo 8 = .ok (.iconst 1, 1) := by decide +kernel
theorem dX6_undo_9 : decode cX6_undo 9 = .ok (.goto 4, 3) := by decide +kernel
theorem dX6_undo_12 : decode cX6_undo 12 = .ok (.iconst 0, 1) := by decide +kernel
theorem dX6_undo_13 : decode cX6_undo 13 = .ok (.invokevirtual 86, 3) := by decide +kernel
theorem dX6_undo_16 : decode cX6_undo 16 = .ok (.ifCond .eq 5, 3) := by decide +kernel
theorem dX6_undo_19 : decode cX6_undo 19 = .ok (.iconst 0, 1) := by decide +kernel
theorem dX6_undo_20 : decode cX6_undo 20 = .ok (.ireturn, 1) := by decide +kernel
theorem dX6_undo_21 : decode cX6_undo 21 = .ok (.aload_n 0, 1) := by decide +kernel
theorem dX6_undo_22 : decode cX6_undo 22 = .ok (.dup, 1) := by decide +kernel
theorem dX6_undo_23 : decode cX6_undo 23 = .ok (.getfield 58, 3) := by decide +kernel
theorem dX6_undo_26 : decode cX6_undo 26 = .ok (.iconst 1, 1) := by decide +kernel
theorem dX6_undo_27 : decode cX6_undo 27 = .ok (.isub, 1) := by decide +kernel
theorem dX6_undo_28 : decode cX6_undo 28 = .ok (.putfield 58, 3) := by decide +kernel
theorem dX6_undo_31 : decode cX6_undo 31 = .ok (.aload_n 0, 1) := by decide +kernel
theorem dX6_undo_32 : decode cX6_undo 32 = .ok (.getfield 13, 3) := by decide +kernel
theorem dX6_undo_35 : decode cX6_undo 35 = .ok (.sipush 240, 3) := by decide +kernel
theorem dX6_undo_38 : decode cX6_undo 38 = .ok (.aload_n 0, 1) := by decide +kernel
theorem dX6_undo_39 : decode cX6_undo 39 = .ok (.getfield 58, 3) := by decide +kernel
theorem dX6_undo_42 : decode cX6_undo 42 = .ok (.imul, 1) := by decide +kernel
theorem dX6_undo_43 : decode cX6_undo 43 = .ok (.aload_n 0, 1) := by decide +kernel
theorem dX6_undo_44 : decode cX6_undo 44 = .ok (.getfield 7, 3) := by decide +kernel
theorem dX6_undo_47 : decode cX6_undo 47 = .ok (.iconst 0, 1) := by decide +kernel
theorem dX6_undo_48 : decode cX6_undo 48 = .ok (.invokestatic 61, 3) := by decide +kernel
theorem dX6_undo_51 : decode cX6_undo 51 = .ok (.aload_n 0, 1) := by decide +kernel
theorem dX6_undo_52 : decode cX6_undo 52 = .ok (.getfield 58, 3) := by decide +kernel
theorem dX6_undo_55 : decode cX6_undo 55 = .ok (.ireturn, 1) := by decide +kernel
theorem dX6_save_0 : decode cX6_save 0 = .ok (.aload_n 0, 1) := by decide +kernel
theorem dX6_save_1 : decode cX6_save 1 = .ok (.iconst 0, 1) := by decide +kernel
theorem dX6_save_2 : decode cX6_save 2 = .ok (.putfield 36, 3) := by decide +kernel
theorem dX6_save_5 : decode cX6_save 5 = .ok (.aload_n 0, 1) := by decide +kernel
theorem dX6_save_6 : decode cX6_save 6 = .ok (.iconst 1, 1) := by decide +kernel
theorem dX6_save_7 : decode cX6_save 7 = .ok (.putfield 251, 3) := by decide +kernel
theorem dX6_save_10 : decode cX6_save 10 = .ok (.aload_n 0, 1) := by decide +kernel
theorem dX6_save_11 : decode cX6_save 11 = .ok (.getfield 7, 3) := by decide +kernel
theorem dX6_save_14 : decode cX6_save 14 = .ok (.iconst 0, 1) := by decide +kernel
theorem dX6_save_15 : decode cX6_save 15 = .ok (.aload_n 0, 1) := by decide +kernel
theorem dX6_save_16 : decode cX6_save 16 = .ok (.getfield 16, 3) := by decide +kernel
theorem dX6_save_19 : decode cX6_save 19 = .ok (.iconst 0, 1) := by decide +kernel
theorem dX6_save_20 : decode cX6_save 20 = .ok (.invokestatic 61, 3) := by decide +kernel
theorem dX6_save_23 : decode cX6_save 23 = .ok (.aload_n 0, 1) := by decide +kernel
theorem dX6_save_24 : decode cX6_save 24 = .ok (.getfield 7, 3) := by decide +kernel
theorem dX6_save_27 : decode cX6_save 27 = .ok (.iconst 1, 1) := by decide +kernel
theorem dX6_save_28 : decode cX6_save 28 = .ok (.iaload, 1) := by decide +kernel
theorem dX6_save_29 : decode cX6_save 29 = .ok (.ireturn, 1) := by decide +kernel
theorem dX6_restore_0 : decode cX6_restore 0 = .ok (.aload_n 0, 1) := by decide +kernel
theorem dX6_restore_1 : decode cX6_restore 1 = .ok (.aload_n 0, 1) := by decide +kernel
theorem dX6_restore_2 : decode cX6_restore 2 = .ok (.getfield 251, 3) := by decide +kernel
theorem dX6_restore_5 : decode cX6_restore 5 = .ok (.ifCond .eq 7, 3) := by decide +kernel
theorem dX6_restore_8 : decode cX6_restore 8 = .ok (.iconst 0, 1) := by decide +kernel
theorem dX6_restore_9 : decode cX6_restore 9 = .ok (.goto 4, 3) := by decide +kernel
theorem dX6_restore_12 : decode cX6_restore 12 = .ok (.iconst 1, 1) := by decide +kernel
theorem dX6_restore_13 : decode cX6_restore 13 = .ok (.invokevirtual 86, 3) := by decide +kernel
theorem dX6_restore_16 : decode cX6_restore 16 = .ok (.ifCond .eq 5, 3) := by decide +kernel
theorem dX6_restore_19 : decode cX6_restore 19 = .ok (.iconst 0, 1) := by decide +kernel
theorem dX6_restore_20 : decode cX6_restore 20 = .ok (.ireturn, 1) := by decide +kernel
theorem dX6_restore_21 : decode cX6_restore 21 = .ok (.aload_n 0, 1) := by decide +kernel
theorem dX6_restore_22 : decode cX6_restore 22 = .ok (.getfield 16, 3) := by decide +kernel
theorem dX6_restore_25 : decode cX6_restore 25 = .ok (.iconst 0, 1) := by decide +kernel
theorem dX6_restore_26 : decode cX6_restore 26 = .ok (.aload_n 0, 1) := by decide +kernel
theorem dX6_restore_27 : decode cX6_restore 27 = .ok (.getfield 7, 3) := by decide +kernel
theorem dX6_restore_30 : decode cX6_restore 30 = .ok (.iconst 0, 1) := by decide +kernel
theorem dX6_restore_31 : decode cX6_restore 31 = .ok (.invokestatic 61, 3) := by decide +kernel
theorem dX6_restore_34 : decode cX6_restore 34 = .ok (.aload_n 0, 1) := by decide +kernel
theorem dX6_restore_35 : decode cX6_restore 35 = .ok (.iconst 0, 1) := by decide +kernel
theorem dX6_restore_36 : decode cX6_restore 36 = .ok (.putfield 58, 3) := by decide +kernel
theorem dX6_restore_39 : decode cX6_restore 39 = .ok (.aload_n 0, 1) := by decide +kernel
theorem dX6_restore_40 : decode cX6_restore 40 = .ok (.getfield 7, 3) := by decide +kernel
theorem dX6_restore_43 : decode cX6_restore 43 = .ok (.iconst 1, 1) := by decide +kernel
theorem dX6_restore_44 : decode cX6_restore 44 = .ok (.iaload, 1) := by decide +kernel
theorem dX6_restore_45 : decode cX6_restore 45 = .ok (.ireturn, 1) := by decide +kernel
