theorem dX5_init_0 : decode cX5_init 0 = .ok (.aload_n 0, 1) := by decide +kernel
theorem dX5_init_1 : decode cX5_init 1 = .ok (.invokespecial 3, 3) := by decide +kernel
theorem dX5_init_4 : decode cX5_init 4 = .ok (.aload_n 0, 1) := by decide +kernel
theorem dX5_init_5 : decode cX5_init 5 = .ok (.new 9, 3) := by decide +kernel
theorem dX5_init_8 : decode cX5_init 8 = .ok (.dup, 1) := by decide +kernel
theorem dX5_init_9 : decode cX5_init 9 = .ok (.invokespecial 11, 3) := by decide +kernel
theorem dX5_init_12 : decode cX5_init 12 = .ok (.putfield 12, 3) := by decide +kernel
theorem dX5_init_15 : decode cX5_init 15 = .ok (.aload_n 0, 1) := by decide +kernel
theorem dX5_init_16 : decode cX5_init 16 = .ok (.new 9, 3) := by decide +kernel
theorem dX5_init_19 : decode cX5_init 19 = .ok (.dup, 1) := by decide +kernel
theorem dX5_init_20 : decode cX5_init 20 = .ok (.invokespecial 11, 3) := by decide +kernel
theorem dX5_init_23 : decode cX5_init 23 = .ok (.putfield 16, 3) := by decide +kernel
theorem dX5_init_26 : decode cX5_init 26 = .ok (.aload_n 0, 1) := by decide +kernel
theorem dX5_init_27 : decode cX5_init 27 = .ok (.new 9, 3) := by decide +kernel
theorem dX5_init_30 : decode cX5_init 30 = .ok (.dup, 1) := by decide +kernel
theorem dX5_init_31 : decode cX5_init 31 = .ok (.invokespecial 11, 3) := by decide +kernel
theorem dX5_init_34 : decode cX5_init 34 = .ok (.putfield 19, 3) := by decide +kernel
theorem dX5_init_37 : decode cX5_init 37 = .ok (.aload_n 0, 1) := by decide +kernel
theorem dX5_init_38 : decode cX5_init 38 = .ok (.new 9, 3) := by decide +kernel
theorem dX5_init_41 : decode cX5_init 41 = .ok (.dup, 1) := by decide +kernel
theorem dX5_init_42 : decode cX5_init 42 = .ok (.invokespecial 11, 3) := by decide +kernel
theorem dX5_init_45 : decode cX5_init 45 = .ok (.putfield 22, 3) := by decide +kernel
theorem dX5_init_48 : decode cX5_init 48 = .ok (.aload_n 0, 1) := by decide +kernel
theorem dX5_init_49 : decode cX5_init 49 = .ok (.new 25, 3) := by decide +kernel
theorem dX5_init_52 : decode cX5_init 52 = .ok (.dup, 1) := by decide +kernel
theorem dX5_init_53 : decode cX5_init 53 = .ok (.invokespecial 27, 3) := by decide +kernel
theorem dX5_init_56 : decode cX5_init 56 = .ok (.putfield 28, 3) := by decide +kernel
theorem dX5_init_59 : decode cX5_init 59 = .ok (.aload_n 0, 1) := by decide +kernel
theorem dX5_init_60 : decode cX5_init 60 = .ok (.new 32, 3) := by decide +kernel
theorem dX5_init_63 : decode cX5_init 63 = .ok (.dup, 1) := by decide +kernel
theorem dX5_init_64 : decode cX5_init 64 = .ok (.invokespecial 34, 3) := by decide +kernel
theorem dX5_init_67 : decode cX5_init 67 = .ok (.putfield 35, 3) := by decide +kernel
theorem dX5_init_70 : decode cX5_init 70 = .ok (.aload_n 0, 1) := by decide +kernel
theorem dX5_init_71 : decode cX5_init 71 = .ok (.new 39, 3) := by decide +kernel
theorem dX5_init_74 : decode cX5_init 74 = .ok (.dup, 1) := by decide +kernel
theorem dX5_init_75 : decode cX5_init 75 = .ok (.invokespecial 41, 3) := by decide +kernel
theorem dX5_init_78 : decode cX5_init 78 = .ok (.putfield 42, 3) := by decide +kernel
theorem dX5_init_81 : decode cX5_init 81 = .ok (.aload_n 0, 1) := by decide +kernel
theorem dX5_init_82 : decode cX5_init 82 = .ok (.new 46, 3) := by decide +kernel
theorem dX5_init_85 : decode cX5_init 85 = .ok (.dup, 1) := by decide +kernel
theorem dX5_init_86 : decode cX5_init 86 = .ok (.invokespecial 48, 3) := by decide +kernel
theorem dX5_init_89 : decode cX5_init 89 = .ok (.putfield 49, 3) := by decide +kernel
theorem dX5_init_92 : decode cX5_init 92 = .ok (.aload_n 0, 1) := by decide +kernel
theorem dX5_init_93 : decode cX5_init 93 = .ok (.iconst (-1), 1) := by decide +kernel
theorem dX5_init_94 : decode cX5_init 94 = .ok (.putfield 53, 3) := by decide +kernel
theorem dX5_init_97 : decode cX5_init 97 = .ok (.return_, 1) := by decide +kernel
theorem dX5_house_0 : decode cX5_house 0 = .ok (.aload_n 0, 1) := by decide +kernel
theorem dX5_house_1 : decode cX5_house 1 = .ok (.getfield 16, 3) := by decide +kernel
theorem dX5_house_4 : decode cX5_house 4 = .ok (.aload_n 0, 1) := by decide +kernel
theorem dX5_house_5 : decode cX5_house 5 = .ok (.getfield 12, 3) := by decide +kernel
theorem dX5_house_8 : decode cX5_house 8 = .ok (.invokevirtual 57, 3) := by decide +kernel
theorem dX5_house_11 : decode cX5_house 11 = .ok (.aload_n 0, 1) := by decide +kernel
theorem dX5_house_12 : decode cX5_house 12 = .ok (.aload_n 0, 1) := by decide +kernel
theorem dX5_house_13 : decode cX5_house 13 = .ok (.iload_n 1, 1) := by decide +kernel
theorem dX5_house_14 : decode cX5_house 14 = .ok (.invokevirtual 61, 3) := by decide +kernel
theorem dX5_house_17 : decode cX5_house 17 = .ok (.invokevirtual 65, 3) := by decide +kernel
theorem dX5_house_20 : decode cX5_house 20 = .ok (.ireturn, 1) := by decide +kernel
theorem dX5_sheet_0 : decode cX5_sheet 0 = .ok (.aload_n 0, 1) := by decide +kernel
theorem dX5_sheet_1 : decode cX5_sheet 1 = .ok (.getfield 16, 3) := by decide +kernel
theorem dX5_sheet_4 : decode cX5_sheet 4 = .ok (.aload_n 0, 1) := by decide +kernel
theorem dX5_sheet_5 : decode cX5_sheet 5 = .ok (.getfield 12, 3) := by decide +kernel
theorem dX5_sheet_8 : decode cX5_sheet 8 = .ok (.invokevirtual 57, 3) := by decide +kernel
theorem dX5_sheet_11 : decode cX5_sheet 11 = .ok (.aload_n 0, 1) := by decide +kernel
theorem dX5_sheet_12 : decode cX5_sheet 12 = .ok (.aload_n 0, 1) := by decide +kernel
theorem dX5_sheet_13 : decode cX5_sheet 13 = .ok (.iload_n 1, 1) := by decide +kernel
theorem dX5_sheet_14 : decode cX5_sheet 14 = .ok (.iload_n 2, 1) := by decide +kernel
theorem dX5_sheet_15 : decode cX5_sheet 15 = .ok (.invokevirtual 68, 3) := by decide +kernel
theorem dX5_sheet_18 : decode cX5_sheet 18 = .ok (.invokevirtual 65, 3) := by decide +kernel
theorem dX5_sheet_21 : decode cX5_sheet 21 = .ok (.ireturn, 1) := by decide +kernel
theorem dX5_take_0 : decode cX5_take 0 = .ok (.aload_n 0, 1) := by decide +kernel
theorem dX5_take_1 : decode cX5_take 1 = .ok (.getfield 16, 3) := by decide +kernel
theorem dX5_take_4 : decode cX5_take 4 = .ok (.aload_n 0, 1) := by decide +kernel
theorem dX5_take_5 : decode cX5_take 5 = .ok (.getfield 12, 3) := by decide +kernel
theorem dX5_take_8 : decode cX5_take 8 = .ok (.invokevirtual 57, 3) := by decide +kernel
theorem dX5_take_11 : decode cX5_take 11 = .ok (.aload_n 0, 1) := by decide +kernel
theorem dX5_take_12 : decode cX5_take 12 = .ok (.aload_n 0, 1) := by decide +kernel
theorem dX5_take_13 : decode cX5_take 13 = .ok (.iload_n 1, 1) := by decide +kernel
theorem dX5_take_14 : decode cX5_take 14 = .ok (.invokevirtual 72, 3) := by decide +kernel
theorem dX5_take_17 : decode cX5_take 17 = .ok (.invokevirtual 65, 3) := by decide +kernel
theorem dX5_take_20 : decode cX5_take 20 = .ok (.ireturn, 1) := by decide +kernel
theorem dX5_set_0 : decode cX5_set 0 = .ok (.aload_n 0, 1) := by decide +kernel
theorem dX5_set_1 : decode cX5_set 1 = .ok (.getfield 16, 3) := by decide +kernel
theorem dX5_set_4 : decode cX5_set 4 = .ok (.aload_n 0, 1) := by decide +kernel
theorem dX5_set_5 : decode cX5_set 5 = .ok (.getfield 12, 3) := by decide +kernel
theorem dX5_set_8 : decode cX5_set 8 = .ok (.invokevirtual 57, 3) := by decide +kernel
theorem dX5_set_11 : decode cX5_set 11 = .ok (.aload_n 0, 1) := by decide +kernel
theorem dX5_set_12 : decode cX5_set 12 = .ok (.aload_n 0, 1) := by decide +kernel
theorem dX5_set_13 : decode cX5_set 13 = .ok (.iload_n 1, 1) := by decide +kernel
theorem dX5_set_14 : decode cX5_set 14 = .ok (.iload_n 2, 1) := by decide +kernel
theorem dX5_set_15 : decode cX5_set 15 = .ok (.iload_n 3, 1) := by decide +kernel
theorem dX5_set_16 : decode cX5_set 16 = .ok (.invokevirtual 75, 3) := by decide +kernel
theorem dX5_set_19 : decode cX5_set 19 = .ok (.invokevirtual 65, 3) := by decide +kernel
theorem dX5_set_22 : decode cX5_set 22 = .ok (.ireturn, 1) := by decide +kernel
theorem dX5_license_0 : decode cX5_license 0 = .ok (.aload_n 0, 1) := by decide +kernel
theorem dX5_license_1 : decode cX5_license 1 = .ok (.getfield 16, 3) := by decide +kernel
theorem dX5_license_4 : decode cX5_license 4 = .ok (.aload_n 0, 1) := by decide +kernel
theorem dX5_license_5 : decode cX5_license 5 = .ok (.getfield 12, 3) := by decide +kernel
theorem dX5_license_8 : decode cX5_license 8 = .ok (.invokevirtual 57, 3) := by decide +kernel
theorem dX5_license_11 : decode cX5_license 11 = .ok (.aload_n 0, 1) := by decide +kernel
theorem dX5_license_12 : decode cX5_license 12 = .ok (.aload_n 0, 1) := by decide +kernel
theorem dX5_license_13 : decode cX5_license 13 = .ok (.iload_n 1, 1) := by decide +kernel
theorem dX5_license_14 : decode cX5_license 14 = .ok (.iload_n 2, 1) := by decide +kernel
theorem dX5_license_15 : decode cX5_license 15 = .ok (.invokevirtual 79, 3) := by decide +kernel
theorem dX5_license_18 : decode cX5_license 18 = .ok (.invokevirtual 65, 3) := by decide +kernel
theorem dX5_license_21 : decode cX5_license 21 = .ok (.ireturn, 1) := by decide +kernel
theorem dX5_correct_0 : decode cX5_correct 0 = .ok (.aload_n 0, 1) := by decide +kernel
theorem dX5_correct_1 : decode cX5_correct 1 = .ok (.getfield 16, 3) := by decide +kernel
theorem dX5_correct_4 : decode cX5_correct 4 = .ok (.aload_n 0, 1) := by decide +kernel
theorem dX5_correct_5 : decode cX5_correct 5 = .ok (.getfield 12, 3) := by decide +kernel
theorem dX5_correct_8 : decode cX5_correct 8 = .ok (.invokevirtual 57, 3) := by decide +kernel
theorem dX5_correct_11 : decode cX5_correct 11 = .ok (.aload_n 0, 1) := by decide +kernel
theorem dX5_correct_12 : decode cX5_correct 12 = .ok (.aload_n 0, 1) := by decide +kernel
theorem dX5_correct_13 : decode cX5_correct 13 = .ok (.iload_n 1, 1) := by decide +kernel
theorem dX5_correct_14 : decode cX5_correct 14 = .ok (.iload_n 2, 1) := by decide +kernel
theorem dX5_correct_15 : decode cX5_correct 15 = .ok (.invokevirtual 82, 3) := by decide +kernel
theorem dX5_correct_18 : decode cX5_correct 18 = .ok (.invokevirtual 65, 3) := by decide +kernel
theorem dX5_correct_21 : decode cX5_correct 21 = .ok (.ireturn, 1) := by decide +kernel
theorem dX5_reader_0 : decode cX5_reader 0 = .ok (.aload_n 0, 1) := by decide +kernel
theorem dX5_reader_1 : decode cX5_reader 1 = .ok (.getfield 16, 3) := by decide +kernel
theorem dX5_reader_4 : decode cX5_reader 4 = .ok (.aload_n 0, 1) := by decide +kernel
theorem dX5_reader_5 : decode cX5_reader 5 = .ok (.getfield 12, 3) := by decide +kernel
theorem dX5_reader_8 : decode cX5_reader 8 = .ok (.invokevirtual 57, 3) := by decide +kernel
theorem dX5_reader_11 : decode cX5_reader 11 = .ok (.aload_n 0, 1) := by decide +kernel
theorem dX5_reader_12 : decode cX5_reader 12 = .ok (.aload_n 0, 1) := by decide +kernel
theorem dX5_reader_13 : decode cX5_reader 13 = .ok (.iload_n 1, 1) := by decide +kernel
theorem dX5_reader_14 : decode cX5_reader 14 = .ok (.iload_n 2, 1) := by decide +kernel
theorem dX5_reader_15 : decode cX5_reader 15 = .ok (.invokevirtual 85, 3) := by decide +kernel
theorem dX5_reader_18 : decode cX5_reader 18 = .ok (.invokevirtual 65, 3) := by decide +kernel
theorem dX5_reader_21 : decode cX5_reader 21 = .ok (.ireturn, 1) := by decide +kernel
theorem dX5_edition_0 : decode cX5_edition 0 = .ok (.aload_n 0, 1) := by decide +kernel
theorem dX5_edition_1 : decode cX5_edition 1 = .ok (.getfield 16, 3) := by decide +kernel
theorem dX5_edition_4 : decode cX5_edition 4 = .ok (.aload_n 0, 1) := by decide +kernel
theorem dX5_edition_5 : decode cX5_edition 5 = .ok (.getfield 12, 3) := by decide +kernel
theorem dX5_edition_8 : decode cX5_edition 8 = .ok (.invokevirtual 57, 3) := by decide +kernel
theorem dX5_edition_11 : decode cX5_edition 11 = .ok (.aload_n 0, 1) := by decide +kernel
theorem dX5_edition_12 : decode cX5_edition 12 = .ok (.aload_n 0, 1) := by decide +kernel
theorem dX5_edition_13 : decode cX5_edition 13 = .ok (.invokevirtual 88, 3) := by decide +kernel
theorem dX5_edition_16 : decode cX5_edition 16 = .ok (.invokevirtual 65, 3) := by decide +kernel
theorem dX5_edition_19 : decode cX5_edition 19 = .ok (.ireturn, 1) := by decide +kernel
theorem dX5_day_0 : decode cX5_day 0 = .ok (.aload_n 0, 1) := by decide +kernel
theorem dX5_day_1 : decode cX5_day 1 = .ok (.getfield 16, 3) := by decide +kernel
theorem dX5_day_4 : decode cX5_day 4 = .ok (.aload_n 0, 1) := by decide +kernel
theorem dX5_day_5 : decode cX5_day 5 = .ok (.getfield 12, 3) := by decide +kernel
theorem dX5_day_8 : decode cX5_day 8 = .ok (.invokevirtual 57, 3) := by decide +kernel
theorem dX5_day_11 : decode cX5_day 11 = .ok (.aload_n 0, 1) := by decide +kernel
theorem dX5_day_12 : decode cX5_day 12 = .ok (.aload_n 0, 1) := by decide +kernel
theorem dX5_day_13 : decode cX5_day 13 = .ok (.getfield 12, 3) := by decide +kernel
theorem dX5_day_16 : decode cX5_day 16 = .ok (.invokevirtual 92, 3) := by decide +kernel
theorem dX5_day_19 : decode cX5_day 19 = .ok (.invokevirtual 65, 3) := by decide +kernel
theorem dX5_day_22 : decode cX5_day 22 = .ok (.ireturn, 1) := by decide +kernel
theorem dX5_houseOf_0 : decode cX5_houseOf 0 = .ok (.aload_n 0, 1) := by decide +kernel
theorem dX5_houseOf_1 : decode cX5_houseOf 1 = .ok (.getfield 12, 3) := by decide +kernel
theorem dX5_houseOf_4 : decode cX5_houseOf 4 = .ok (.iload_n 1, 1) := by decide +kernel
theorem dX5_houseOf_5 : decode cX5_houseOf 5 = .ok (.invokevirtual 95, 3) := by decide +kernel
theorem dX5_houseOf_8 : decode cX5_houseOf 8 = .ok (.ifCond .ne 13, 3) := by decide +kernel
theorem dX5_houseOf_11 : decode cX5_houseOf 11 = .ok (.new 99, 3) := by decide +kernel
theorem dX5_houseOf_14 : decode cX5_houseOf 14 = .ok (.dup, 1) := by decide +kernel
theorem dX5_houseOf_15 : decode cX5_houseOf 15 = .ok (.ldc 101, 2) := by decide +kernel
theorem dX5_houseOf_17 : decode cX5_houseOf 17 = .ok (.invokespecial 103, 3) := by decide +kernel
theorem dX5_houseOf_20 : decode cX5_houseOf 20 = .ok (.athrow, 1) := by decide +kernel
theorem dX5_houseOf_21 : decode cX5_houseOf 21 = .ok (.iload_n 2, 1) := by decide +kernel
theorem dX5_houseOf_22 : decode cX5_houseOf 22 = .ok (.ifCond .lt 9, 3) := by decide +kernel
theorem dX5_houseOf_25 : decode cX5_houseOf 25 = .ok (.iload_n 2, 1) := by decide +kernel
theorem dX5_houseOf_26 : decode cX5_houseOf 26 = .ok (.bipush 6, 2) := by decide +kernel
theorem dX5_houseOf_28 : decode cX5_houseOf 28 = .ok (.if_icmp .le 13, 3) := by decide +kernel
theorem dX5_houseOf_31 : decode cX5_houseOf 31 = .ok (.new 106, 3) := by decide +kernel
theorem dX5_houseOf_34 : decode cX5_houseOf 34 = .ok (.dup, 1) := by decide +kernel
theorem dX5_houseOf_35 : decode cX5_houseOf 35 = .ok (.ldc 108, 2) := by decide +kernel
theorem dX5_houseOf_37 : decode cX5_houseOf 37 = .ok (.invokespecial 110, 3) := by decide +kernel
theorem dX5_houseOf_40 : decode cX5_houseOf 40 = .ok (.athrow, 1) := by decide +kernel
theorem dX5_houseOf_41 : decode cX5_houseOf 41 = .ok (.aload_n 0, 1) := by decide +kernel
theorem dX5_houseOf_42 : decode cX5_houseOf 42 = .ok (.getfield 12, 3) := by decide +kernel
theorem dX5_houseOf_45 : decode cX5_houseOf 45 = .ok (.iload_n 1, 1) := by decide +kernel
theorem dX5_houseOf_46 : decode cX5_houseOf 46 = .ok (.iload_n 2, 1) := by decide +kernel
theorem dX5_houseOf_47 : decode cX5_houseOf 47 = .ok (.invokevirtual 111, 3) := by decide +kernel
theorem dX5_houseOf_50 : decode cX5_houseOf 50 = .ok (.ireturn, 1) := by decide +kernel
theorem dX5_sheetOf_0 : decode cX5_sheetOf 0 = .ok (.aload_n 0, 1) := by decide +kernel
theorem dX5_sheetOf_1 : decode cX5_sheetOf 1 = .ok (.getfield 12, 3) := by decide +kernel
theorem dX5_sheetOf_4 : decode cX5_sheetOf 4 = .ok (.iload_n 1, 1) := by decide +kernel
theorem dX5_sheetOf_5 : decode cX5_sheetOf 5 = .ok (.invokevirtual 114, 3) := by decide +kernel
theorem dX5_sheetOf_8 : decode cX5_sheetOf 8 = .ok (.ifCond .ne 13, 3) := by decide +kernel
theorem dX5_sheetOf_11 : decode cX5_sheetOf 11 = .ok (.new 99, 3) := by decide +kernel
theorem dX5_sheetOf_14 : decode cX5_sheetOf 14 = .ok (.dup, 1) := by decide +kernel
theorem dX5_sheetOf_15 : decode cX5_sheetOf 15 = .ok (.ldc 117, 2) := by decide +kernel
theorem dX5_sheetOf_17 : decode cX5_sheetOf 17 = .ok (.invokespecial 103, 3) := by decide +kernel
theorem dX5_sheetOf_20 : decode cX5_sheetOf 20 = .ok (.athrow, 1) := by decide +kernel
theorem dX5_sheetOf_21 : decode cX5_sheetOf 21 = .ok (.iload_n 2, 1) := by decide +kernel
theorem dX5_sheetOf_22 : decode cX5_sheetOf 22 = .ok (.ifCond .lt 8, 3) := by decide +kernel
theorem dX5_sheetOf_25 : decode cX5_sheetOf 25 = .ok (.iload_n 2, 1) := by decide +kernel
theorem dX5_sheetOf_26 : decode cX5_sheetOf 26 = .ok (.iconst 5, 1) := by decide +kernel
theorem dX5_sheetOf_27 : decode cX5_sheetOf 27 = .ok (.if_icmp .le 13, 3) := by decide +kernel
theorem dX5_sheetOf_30 : decode cX5_sheetOf 30 = .ok (.new 106, 3) := by decide +kernel
theorem dX5_sheetOf_33 : decode cX5_sheetOf 33 = .ok (.dup, 1) := by decide +kernel
theorem dX5_sheetOf_34 : decode cX5_sheetOf 34 = .ok (.ldc 119, 2) := by decide +kernel
theorem dX5_sheetOf_36 : decode cX5_sheetOf 36 = .ok (.invokespecial 110, 3) := by decide +kernel
theorem dX5_sheetOf_39 : decode cX5_sheetOf 39 = .ok (.athrow, 1) := by decide +kernel
theorem dX5_sheetOf_40 : decode cX5_sheetOf 40 = .ok (.aload_n 0, 1) := by decide +kernel
theorem dX5_sheetOf_41 : decode cX5_sheetOf 41 = .ok (.getfield 12, 3) := by decide +kernel
theorem dX5_sheetOf_44 : decode cX5_sheetOf 44 = .ok (.iload_n 1, 1) := by decide +kernel
theorem dX5_sheetOf_45 : decode cX5_sheetOf 45 = .ok (.iload_n 2, 1) := by decide +kernel
theorem dX5_sheetOf_46 : decode cX5_sheetOf 46 = .ok (.invokevirtual 121, 3) := by decide +kernel
theorem dX5_sheetOf_49 : decode cX5_sheetOf 49 = .ok (.ireturn, 1) := by decide +kernel
theorem dX5_letterAt_0 : decode cX5_letterAt 0 = .ok (.aload_n 0, 1) := by decide +kernel
theorem dX5_letterAt_1 : decode cX5_letterAt 1 = .ok (.getfield 12, 3) := by decide +kernel
theorem dX5_letterAt_4 : decode cX5_letterAt 4 = .ok (.iload_n 1, 1) := by decide +kernel
theorem dX5_letterAt_5 : decode cX5_letterAt 5 = .ok (.iload_n 2, 1) := by decide +kernel
theorem dX5_letterAt_6 : decode cX5_letterAt 6 = .ok (.invokevirtual 124, 3) := by decide +kernel
theorem dX5_letterAt_9 : decode cX5_letterAt 9 = .ok (.ifCond .ne 13, 3) := by decide +kernel
theorem dX5_letterAt_12 : decode cX5_letterAt 12 = .ok (.new 99, 3) := by decide +kernel
theorem dX5_letterAt_15 : decode cX5_letterAt 15 = .ok (.dup, 1) := by decide +kernel
theorem dX5_letterAt_16 : decode cX5_letterAt 16 = .ok (.ldc 128, 2) := by decide +kernel
theorem dX5_letterAt_18 : decode cX5_letterAt 18 = .ok (.invokespecial 103, 3) := by decide +kernel
theorem dX5_letterAt_21 : decode cX5_letterAt 21 = .ok (.athrow, 1) := by decide +kernel
theorem dX5_letterAt_22 : decode cX5_letterAt 22 = .ok (.iload_n 3, 1) := by decide +kernel
theorem dX5_letterAt_23 : decode cX5_letterAt 23 = .ok (.ifCond .eq 15, 3) := by decide +kernel
theorem dX5_letterAt_26 : decode cX5_letterAt 26 = .ok (.aload_n 0, 1) := by decide +kernel
theorem dX5_letterAt_27 : decode cX5_letterAt 27 = .ok (.getfield 12, 3) := by decide +kernel
theorem dX5_letterAt_30 : decode cX5_letterAt 30 = .ok (.iload_n 1, 1) := by decide +kernel
theorem dX5_letterAt_31 : decode cX5_letterAt 31 = .ok (.iload_n 2, 1) := by decide +kernel
theorem dX5_letterAt_32 : decode cX5_letterAt 32 = .ok (.invokevirtual 130, 3) := by decide +kernel
theorem dX5_letterAt_35 : decode cX5_letterAt 35 = .ok (.goto 12, 3) := by decide +kernel
theorem dX5_letterAt_38 : decode cX5_letterAt 38 = .ok (.aload_n 0, 1) := by decide +kernel
theorem dX5_letterAt_39 : decode cX5_letterAt 39 = .ok (.getfield 12, 3) := by decide +kernel
theorem dX5_letterAt_42 : decode cX5_letterAt 42 = .ok (.iload_n 1, 1) := by decide +kernel
theorem dX5_letterAt_43 : decode cX5_letterAt 43 = .ok (.iload_n 2, 1) := by decide +kernel
theorem dX5_letterAt_44 : decode cX5_letterAt 44 = .ok (.invokevirtual 133, 3) := by decide +kernel
theorem dX5_letterAt_47 : decode cX5_letterAt 47 = .ok (.invokestatic 136, 3) := by decide +kernel
theorem dX5_letterAt_50 : decode cX5_letterAt 50 = .ok (.ireturn, 1) := by decide +kernel
theorem dX5_markAt_0 : decode cX5_markAt 0 = .ok (.aload_n 0, 1) := by decide +kernel
theorem dX5_markAt_1 : decode cX5_markAt 1 = .ok (.getfield 12, 3) := by decide +kernel
theorem dX5_markAt_4 : decode cX5_markAt 4 = .ok (.iload_n 1, 1) := by decide +kernel
theorem dX5_markAt_5 : decode cX5_markAt 5 = .ok (.iload_n 2, 1) := by decide +kernel
theorem dX5_markAt_6 : decode cX5_markAt 6 = .ok (.invokevirtual 124, 3) := by decide +kernel
theorem dX5_markAt_9 : decode cX5_markAt 9 = .ok (.ifCond .ne 13, 3) := by decide +kernel
theorem dX5_markAt_12 : decode cX5_markAt 12 = .ok (.new 99, 3) := by decide +kernel
theorem dX5_markAt_15 : decode cX5_markAt 15 = .ok (.dup, 1) := by decide +kernel
theorem dX5_markAt_16 : decode cX5_markAt 16 = .ok (.ldc 128, 2) := by decide +kernel
theorem dX5_markAt_18 : decode cX5_markAt 18 = .ok (.invokespecial 103, 3) := by decide +kernel
theorem dX5_markAt_21 : decode cX5_markAt 21 = .ok (.athrow, 1) := by decide +kernel
theorem dX5_markAt_22 : decode cX5_markAt 22 = .ok (.aload_n 0, 1) := by decide +kernel
theorem dX5_markAt_23 : decode cX5_markAt 23 = .ok (.getfield 12, 3) := by decide +kernel
theorem dX5_markAt_26 : decode cX5_markAt 26 = .ok (.iload_n 1, 1) := by decide +kernel
theorem dX5_markAt_27 : decode cX5_markAt 27 = .ok (.iload_n 2, 1) := by decide +kernel
theorem dX5_markAt_28 : decode cX5_markAt 28 = .ok (.invokevirtual 140, 3) := by decide +kernel
theorem dX5_markAt_31 : decode cX5_markAt 31 = .ok (.ireturn, 1) := by decide +kernel
theorem dX5_fine_0 : decode cX5_fine 0 = .ok (.aload_n 0, 1) := by decide +kernel
theorem dX5_fine_1 : decode cX5_fine 1 = .ok (.getfield 12, 3) := by decide +kernel
theorem dX5_fine_4 : decode cX5_fine 4 = .ok (.iload_n 1, 1) := by decide +kernel
theorem dX5_fine_5 : decode cX5_fine 5 = .ok (.iload_n 2, 1) := by decide +kernel
theorem dX5_fine_6 : decode cX5_fine 6 = .ok (.invokevirtual 124, 3) := by decide +kernel
theorem dX5_fine_9 : decode cX5_fine 9 = .ok (.ifCond .ne 13, 3) := by decide +kernel
theorem dX5_fine_12 : decode cX5_fine 12 = .ok (.new 99, 3) := by decide +kernel
theorem dX5_fine_15 : decode cX5_fine 15 = .ok (.dup, 1) := by decide +kernel
theorem dX5_fine_16 : decode cX5_fine 16 = .ok (.ldc 128, 2) := by decide +kernel
theorem dX5_fine_18 : decode cX5_fine 18 = .ok (.invokespecial 103, 3) := by decide +kernel
theorem dX5_fine_21 : decode cX5_fine 21 = .ok (.athrow, 1) := by decide +kernel
theorem dX5_fine_22 : decode cX5_fine 22 = .ok (.iload_n 3, 1) := by decide +kernel
theorem dX5_fine_23 : decode cX5_fine 23 = .ok (.ifCond .eq 15, 3) := by decide +kernel
theorem dX5_fine_26 : decode cX5_fine 26 = .ok (.aload_n 0, 1) := by decide +kernel
theorem dX5_fine_27 : decode cX5_fine 27 = .ok (.getfield 12, 3) := by decide +kernel
theorem dX5_fine_30 : decode cX5_fine 30 = .ok (.iload_n 1, 1) := by decide +kernel
theorem dX5_fine_31 : decode cX5_fine 31 = .ok (.iload_n 2, 1) := by decide +kernel
theorem dX5_fine_32 : decode cX5_fine 32 = .ok (.invokevirtual 143, 3) := by decide +kernel
theorem dX5_fine_35 : decode cX5_fine 35 = .ok (.goto 12, 3) := by decide +kernel
theorem dX5_fine_38 : decode cX5_fine 38 = .ok (.aload_n 0, 1) := by decide +kernel
theorem dX5_fine_39 : decode cX5_fine 39 = .ok (.getfield 12, 3) := by decide +kernel
theorem dX5_fine_42 : decode cX5_fine 42 = .ok (.iload_n 1, 1) := by decide +kernel
theorem dX5_fine_43 : decode cX5_fine 43 = .ok (.iload_n 2, 1) := by decide +kernel
theorem dX5_fine_44 : decode cX5_fine 44 = .ok (.invokevirtual 146, 3) := by decide +kernel
theorem dX5_fine_47 : decode cX5_fine 47 = .ok (.ireturn, 1) := by decide +kernel
theorem dX5_fines_0 : decode cX5_fines 0 = .ok (.aload_n 0, 1) := by decide +kernel
theorem dX5_fines_1 : decode cX5_fines 1 = .ok (.getfield 12, 3) := by decide +kernel
theorem dX5_fines_4 : decode cX5_fines 4 = .ok (.iload_n 1, 1) := by decide +kernel
theorem dX5_fines_5 : decode cX5_fines 5 = .ok (.invokevirtual 114, 3) := by decide +kernel
theorem dX5_fines_8 : decode cX5_fines 8 = .ok (.ifCond .ne 13, 3) := by decide +kernel
theorem dX5_fines_11 : decode cX5_fines 11 = .ok (.new 99, 3) := by decide +kernel
theorem dX5_fines_14 : decode cX5_fines 14 = .ok (.dup, 1) := by decide +kernel
theorem dX5_fines_15 : decode cX5_fines 15 = .ok (.ldc 117, 2) := by decide +kernel
theorem dX5_fines_17 : decode cX5_fines 17 = .ok (.invokespecial 103, 3) := by decide +kernel
theorem dX5_fines_20 : decode cX5_fines 20 = .ok (.athrow, 1) := by decide +kernel
theorem dX5_fines_21 : decode cX5_fines 21 = .ok (.iload_n 2, 1) := by decide +kernel
theorem dX5_fines_22 : decode cX5_fines 22 = .ok (.ifCond .eq 11, 3) := by decide +kernel
theorem dX5_fines_25 : decode cX5_fines 25 = .ok (.aload_n 0, 1) := by decide +kernel
theorem dX5_fines_26 : decode cX5_fines 26 = .ok (.iload_n 1, 1) := by decide +kernel
theorem dX5_fines_27 : decode cX5_fines 27 = .ok (.invokevirtual 149, 3) := by decide +kernel
theorem dX5_fines_30 : decode cX5_fines 30 = .ok (.goto 11, 3) := by decide +kernel
theorem dX5_fines_33 : decode cX5_fines 33 = .ok (.aload_n 0, 1) := by decide +kernel
theorem dX5_fines_34 : decode cX5_fines 34 = .ok (.getfield 12, 3) := by decide +kernel
theorem dX5_fines_37 : decode cX5_fines 37 = .ok (.iload_n 1, 1) := by decide +kernel
theorem dX5_fines_38 : decode cX5_fines 38 = .ok (.invokevirtual 152, 3) := by decide +kernel
theorem dX5_fines_41 : decode cX5_fines 41 = .ok (.ireturn, 1) := by decide +kernel
theorem dX5_canMend_0 : decode cX5_canMend 0 = .ok (.aload_n 0, 1) := by decide +kernel
theorem dX5_canMend_1 : decode cX5_canMend 1 = .ok (.getfield 12, 3) := by decide +kernel
theorem dX5_canMend_4 : decode cX5_canMend 4 = .ok (.iload_n 1, 1) := by decide +kernel
theorem dX5_canMend_5 : decode cX5_canMend 5 = .ok (.invokevirtual 114, 3) := by decide +kernel
theorem dX5_canMend_8 : decode cX5_canMend 8 = .ok (.ifCond .ne 13, 3) := by decide +kernel
theorem dX5_canMend_11 : decode cX5_canMend 11 = .ok (.new 99, 3) := by decide +kernel
theorem dX5_canMend_14 : decode cX5_canMend 14 = .ok (.dup, 1) := by decide +kernel
theorem dX5_canMend_15 : decode cX5_canMend 15 = .ok (.ldc 117, 2) := by decide +kernel
theorem dX5_canMend_17 : decode cX5_canMend 17 = .ok (.invokespecial 103, 3) := by decide +kernel
theorem dX5_canMend_20 : decode cX5_canMend 20 = .ok (.athrow, 1) := by decide +kernel
theorem dX5_canMend_21 : decode cX5_canMend 21 = .ok (.aload_n 0, 1) := by decide +kernel
theorem dX5_canMend_22 : decode cX5_canMend 22 = .ok (.getfield 12, 3) := by decide +kernel
theorem dX5_canMend_25 : decode cX5_canMend 25 = .ok (.iload_n 1, 1) := by decide +kernel
theorem dX5_canMend_26 : decode cX5_canMend 26 = .ok (.invokevirtual 152, 3) := by decide +kernel
theorem dX5_canMend_29 : decode cX5_canMend 29 = .ok (.aload_n 0, 1) := by decide +kernel
theorem dX5_canMend_30 : decode cX5_canMend 30 = .ok (.getfield 12, 3) := by decide +kernel
theorem dX5_canMend_33 : decode cX5_canMend 33 = .ok (.getfield 155, 3) := by decide +kernel
theorem dX5_canMend_36 : decode cX5_canMend 36 = .ok (.aload_n 0, 1) := by decide +kernel
theorem dX5_canMend_37 : decode cX5_canMend 37 = .ok (.getfield 12, 3) := by decide +kernel
theorem dX5_canMend_40 : decode cX5_canMend 40 = .ok (.getfield 159, 3) := by decide +kernel
theorem dX5_canMend_43 : decode cX5_canMend 43 = .ok (.iload_n 1, 1) := by decide +kernel
theorem dX5_canMend_44 : decode cX5_canMend 44 = .ok (.iaload, 1) := by decide +kernel
theorem dX5_canMend_45 : decode cX5_canMend 45 = .ok (.iaload, 1) := by decide +kernel
theorem dX5_canMend_46 : decode cX5_canMend 46 = .ok (.if_icmp .gt 7, 3) := by decide +kernel
theorem dX5_canMend_49 : decode cX5_canMend 49 = .ok (.iconst 1, 1) := by decide +kernel
theorem dX5_canMend_50 : decode cX5_canMend 50 = .ok (.goto 4, 3) := by decide +kernel
theorem dX5_canMend_53 : decode cX5_canMend 53 = .ok (.iconst 0, 1) := by decide +kernel
theorem dX5_canMend_54 : decode cX5_canMend 54 = .ok (.ireturn, 1) := by decide +kernel
theorem dX5_laughing_0 : decode cX5_laughing 0 = .ok (.aload_n 0, 1) := by decide +kernel
theorem dX5_laughing_1 : decode cX5_laughing 1 = .ok (.getfield 12, 3) := by decide +kernel
theorem dX5_laughing_4 : decode cX5_laughing 4 = .ok (.iload_n 1, 1) := by decide +kernel
theorem dX5_laughing_5 : decode cX5_laughing 5 = .ok (.iload_n 2, 1) := by decide +kernel
theorem dX5_laughing_6 : decode cX5_laughing 6 = .ok (.invokevirtual 124, 3) := by decide +kernel
theorem dX5_laughing_9 : decode cX5_laughing 9 = .ok (.ifCond .ne 13, 3) := by decide +kernel
theorem dX5_laughing_12 : decode cX5_laughing 12 = .ok (.new 99, 3) := by decide +kernel
theorem dX5_laughing_15 : decode cX5_laughing 15 = .ok (.dup, 1) := by decide +kernel
theorem dX5_laughing_16 : decode cX5_laughing 16 = .ok (.ldc 128, 2) := by decide +kernel
theorem dX5_laughing_18 : decode cX5_laughing 18 = .ok (.invokespecial 103, 3) := by decide +kernel
theorem dX5_laughing_21 : decode cX5_laughing 21 = .ok (.athrow, 1) := by decide +kernel
theorem dX5_laughing_22 : decode cX5_laughing 22 = .ok (.aload_n 0, 1) := by decide +kernel
theorem dX5_laughing_23 : decode cX5_laughing 23 = .ok (.getfield 12, 3) := by decide +kernel
theorem dX5_laughing_26 : decode cX5_laughing 26 = .ok (.iload_n 1, 1) := by decide +kernel
theorem dX5_laughing_27 : decode cX5_laughing 27 = .ok (.iload_n 2, 1) := by decide +kernel
theorem dX5_laughing_28 : decode cX5_laughing 28 = .ok (.invokevirtual 162, 3) := by decide +kernel
theorem dX5_laughing_31 : decode cX5_laughing 31 = .ok (.ireturn, 1) := by decide +kernel
theorem dX5_bargain_0 : decode cX5_bargain 0 = .ok (.aload_n 0, 1) := by decide +kernel
theorem dX5_bargain_1 : decode cX5_bargain 1 = .ok (.invokevirtual 165, 3) := by decide +kernel
theorem dX5_bargain_4 : decode cX5_bargain 4 = .ok (.istore_n 2, 1) := by decide +kernel
theorem dX5_bargain_5 : decode cX5_bargain 5 = .ok (.iload_n 2, 1) := by decide +kernel
theorem dX5_bargain_6 : decode cX5_bargain 6 = .ok (.iconst (-1), 1) := by decide +kernel
theorem dX5_bargain_7 : decode cX5_bargain 7 = .ok (.if_icmp .ne 13, 3) := by decide +kernel
theorem dX5_bargain_10 : decode cX5_bargain 10 = .ok (.new 168, 3) := by decide +kernel
theorem dX5_bargain_13 : decode cX5_bargain 13 = .ok (.dup, 1) := by decide +kernel
theorem dX5_bargain_14 : decode cX5_bargain 14 = .ok (.ldc 170, 2) := by decide +kernel
theorem dX5_bargain_16 : decode cX5_bargain 16 = .ok (.invokespecial 172, 3) := by decide +kernel
theorem dX5_bargain_19 : decode cX5_bargain 19 = .ok (.athrow, 1) := by decide +kernel
theorem dX5_bargain_20 : decode cX5_bargain 20 = .ok (.iload_n 1, 1) := by decide +kernel
theorem dX5_bargain_21 : decode cX5_bargain 21 = .ok (.ifCond .eq 10, 3) := by decide +kernel
theorem dX5_bargain_24 : decode cX5_bargain 24 = .ok (.iload_n 2, 1) := by decide +kernel
theorem dX5_bargain_25 : decode cX5_bargain 25 = .ok (.bipush 8, 2) := by decide +kernel
theorem dX5_bargain_27 : decode cX5_bargain 27 = .ok (.irem, 1) := by decide +kernel
theorem dX5_bargain_28 : decode cX5_bargain 28 = .ok (.goto 7, 3) := by decide +kernel
theorem dX5_bargain_31 : decode cX5_bargain 31 = .ok (.iload_n 2, 1) := by decide +kernel
theorem dX5_bargain_32 : decode cX5_bargain 32 = .ok (.bipush 8, 2) := by decide +kernel
theorem dX5_bargain_34 : decode cX5_bargain 34 = .ok (.idiv, 1) := by decide +kernel
theorem dX5_bargain_35 : decode cX5_bargain 35 = .ok (.ireturn, 1) := by decide +kernel
theorem dX5_wouldShame_0 : decode cX5_wouldShame 0 = .ok (.aload_n 0, 1) := by decide +kernel
theorem dX5_wouldShame_1 : decode cX5_wouldShame 1 = .ok (.getfield 12, 3) := by decide +kernel
theorem dX5_wouldShame_4 : decode cX5_wouldShame 4 = .ok (.iload_n 1, 1) := by decide +kernel
theorem dX5_wouldShame_5 : decode cX5_wouldShame 5 = .ok (.invokevirtual 95, 3) := by decide +kernel
theorem dX5_wouldShame_8 : decode cX5_wouldShame 8 = .ok (.ifCond .ne 13, 3) := by decide +kernel
theorem dX5_wouldShame_11 : decode cX5_wouldShame 11 = .ok (.new 99, 3) := by decide +kernel
theorem dX5_wouldShame_14 : decode cX5_wouldShame 14 = .ok (.dup, 1) := by decide +kernel
theorem dX5_wouldShame_15 : decode cX5_wouldShame 15 = .ok (.ldc 101, 2) := by decide +kernel
theorem dX5_wouldShame_17 : decode cX5_wouldShame 17 = .ok (.invokespecial 103, 3) := by decide +kernel
theorem dX5_wouldShame_20 : decode cX5_wouldShame 20 = .ok (.athrow, 1) := by decide +kernel
theorem dX5_wouldShame_21 : decode cX5_wouldShame 21 = .ok (.aload_n 0, 1) := by decide +kernel
theorem dX5_wouldShame_22 : decode cX5_wouldShame 22 = .ok (.getfield 12, 3) := by decide +kernel
theorem dX5_wouldShame_25 : decode cX5_wouldShame 25 = .ok (.getfield 173, 3) := by decide +kernel
theorem dX5_wouldShame_28 : decode cX5_wouldShame 28 = .ok (.iload_n 1, 1) := by decide +kernel
theorem dX5_wouldShame_29 : decode cX5_wouldShame 29 = .ok (.iaload, 1) := by decide +kernel
theorem dX5_wouldShame_30 : decode cX5_wouldShame 30 = .ok (.aload_n 0, 1) := by decide +kernel
theorem dX5_wouldShame_31 : decode cX5_wouldShame 31 = .ok (.getfield 12, 3) := by decide +kernel
theorem dX5_wouldShame_34 : decode cX5_wouldShame 34 = .ok (.iload_n 1, 1) := by decide +kernel
theorem dX5_wouldShame_35 : decode cX5_wouldShame 35 = .ok (.invokevirtual 176, 3) := by decide +kernel
theorem dX5_wouldShame_38 : decode cX5_wouldShame 38 = .ok (.iadd, 1) := by decide +kernel
theorem dX5_wouldShame_39 : decode cX5_wouldShame 39 = .ok (.invokestatic 179, 3) := by decide +kernel
theorem dX5_wouldShame_42 : decode cX5_wouldShame 42 = .ok (.ireturn, 1) := by decide +kernel
theorem dX5_wouldLaugh_0 : decode cX5_wouldLaugh 0 = .ok (.iload_n 1, 1) := by decide +kernel
theorem dX5_wouldLaugh_1 : decode cX5_wouldLaugh 1 = .ok (.ifCond .eq 13, 3) := by decide +kernel
theorem dX5_wouldLaugh_4 : decode cX5_wouldLaugh 4 = .ok (.aload_n 0, 1) := by decide +kernel
theorem dX5_wouldLaugh_5 : decode cX5_wouldLaugh 5 = .ok (.getfield 12, 3) := by decide +kernel
theorem dX5_wouldLaugh_8 : decode cX5_wouldLaugh 8 = .ok (.invokevirtual 182, 3) := by decide +kernel
theorem dX5_wouldLaugh_11 : decode cX5_wouldLaugh 11 = .ok (.goto 10, 3) := by decide +kernel
theorem dX5_wouldLaugh_14 : decode cX5_wouldLaugh 14 = .ok (.aload_n 0, 1) := by decide +kernel
theorem dX5_wouldLaugh_15 : decode cX5_wouldLaugh 15 = .ok (.getfield 12, 3) := by decide +kernel
theorem dX5_wouldLaugh_18 : decode cX5_wouldLaugh 18 = .ok (.invokevirtual 185, 3) := by decide +kernel
theorem dX5_wouldLaugh_21 : decode cX5_wouldLaugh 21 = .ok (.ireturn, 1) := by decide +kernel
theorem dX5_nearest_0 : decode cX5_nearest 0 = .ok (.aload_n 0, 1) := by decide +kernel
theorem dX5_nearest_1 : decode cX5_nearest 1 = .ok (.getfield 12, 3) := by decide +kernel
theorem dX5_nearest_4 : decode cX5_nearest 4 = .ok (.iload_n 1, 1) := by decide +kernel
theorem dX5_nearest_5 : decode cX5_nearest 5 = .ok (.invokevirtual 114, 3) := by decide +kernel
theorem dX5_nearest_8 : decode cX5_nearest 8 = .ok (.ifCond .ne 13, 3) := by decide +kernel
theorem dX5_nearest_11 : decode cX5_nearest 11 = .ok (.new 99, 3) := by decide +kernel
theorem dX5_nearest_14 : decode cX5_nearest 14 = .ok (.dup, 1) := by decide +kernel
theorem dX5_nearest_15 : decode cX5_nearest 15 = .ok (.ldc 117, 2) := by decide +kernel
theorem dX5_nearest_17 : decode cX5_nearest 17 = .ok (.invokespecial 103, 3) := by decide +kernel
theorem dX5_nearest_20 : decode cX5_nearest 20 = .ok (.athrow, 1) := by decide +kernel
theorem dX5_nearest_21 : decode cX5_nearest 21 = .ok (.iconst 0, 1) := by decide +kernel
theorem dX5_nearest_22 : decode cX5_nearest 22 = .ok (.istore_n 2, 1) := by decide +kernel
theorem dX5_nearest_23 : decode cX5_nearest 23 = .ok (.iconst 1, 1) := by decide +kernel
theorem dX5_nearest_24 : decode cX5_nearest 24 = .ok (.istore_n 3, 1) := by decide +kernel
theorem dX5_nearest_25 : decode cX5_nearest 25 = .ok (.iload_n 3, 1) := by decide +kernel
theorem dX5_nearest_26 : decode cX5_nearest 26 = .ok (.aload_n 0, 1) := by decide +kernel
theorem dX5_nearest_27 : decode cX5_nearest 27 = .ok (.getfield 12, 3) := by decide +kernel
theorem dX5_nearest_30 : decode cX5_nearest 30 = .ok (.getfield 188, 3) := by decide +kernel
theorem dX5_nearest_33 : decode cX5_nearest 33 = .ok (.if_icmp .ge 32, 3) := by decide +kernel
theorem dX5_nearest_36 : decode cX5_nearest 36 = .ok (.aload_n 0, 1) := by decide +kernel
theorem dX5_nearest_37 : decode cX5_nearest 37 = .ok (.getfield 12, 3) := by decide +kernel
theorem dX5_nearest_40 : decode cX5_nearest 40 = .ok (.iload_n 1, 1) := by decide +kernel
theorem dX5_nearest_41 : decode cX5_nearest 41 = .ok (.iload_n 3, 1) := by decide +kernel
theorem dX5_nearest_42 : decode cX5_nearest 42 = .ok (.invokevirtual 191, 3) := by decide +kernel
theorem dX5_nearest_45 : decode cX5_nearest 45 = .ok (.aload_n 0, 1) := by decide +kernel
theorem dX5_nearest_46 : decode cX5_nearest 46 = .ok (.getfield 12, 3) := by decide +kernel
theorem dX5_nearest_49 : decode cX5_nearest 49 = .ok (.iload_n 1, 1) := by decide +kernel
theorem dX5_nearest_50 : decode cX5_nearest 50 = .ok (.iload_n 2, 1) := by decide +kernel
theorem dX5_nearest_51 : decode cX5_nearest 51 = .ok (.invokevirtual 191, 3) := by decide +kernel
theorem dX5_nearest_54 : decode cX5_nearest 54 = .ok (.if_icmp .ge 5, 3) := by decide +kernel
theorem dX5_nearest_57 : decode cX5_nearest 57 = .ok (.iload_n 3, 1) := by decide +kernel
theorem dX5_nearest_58 : decode cX5_nearest 58 = .ok (.istore_n 2, 1) := by decide +kernel
theorem dX5_nearest_59 : decode cX5_nearest 59 = .ok (.iinc 3 1, 3) := by decide +kernel
theorem dX5_nearest_62 : decode cX5_nearest 62 = .ok (.goto (-37), 3) := by decide +kernel
theorem dX5_nearest_65 : decode cX5_nearest 65 = .ok (.iload_n 2, 1) := by decide +kernel
theorem dX5_nearest_66 : decode cX5_nearest 66 = .ok (.ireturn, 1) := by decide +kernel
theorem dX5_calmIn_0 : decode cX5_calmIn 0 = .ok (.aload_n 0, 1) := by decide +kernel
theorem dX5_calmIn_1 : decode cX5_calmIn 1 = .ok (.getfield 12, 3) := by decide +kernel
theorem dX5_calmIn_4 : decode cX5_calmIn 4 = .ok (.iload_n 1, 1) := by decide +kernel
theorem dX5_calmIn_5 : decode cX5_calmIn 5 = .ok (.invokevirtual 95, 3) := by decide +kernel
theorem dX5_calmIn_8 : decode cX5_calmIn 8 = .ok (.ifCond .ne 13, 3) := by decide +kernel
theorem dX5_calmIn_11 : decode cX5_calmIn 11 = .ok (.new 99, 3) := by decide +kernel
theorem dX5_calmIn_14 : decode cX5_calmIn 14 = .ok (.dup, 1) := by decide +kernel
theorem dX5_calmIn_15 : decode cX5_calmIn 15 = .ok (.ldc 101, 2) := by decide +kernel
theorem dX5_calmIn_17 : decode cX5_calmIn 17 = .ok (.invokespecial 103, 3) := by decide +kernel
theorem dX5_calmIn_20 : decode cX5_calmIn 20 = .ok (.athrow, 1) := by decide +kernel
theorem dX5_calmIn_21 : decode cX5_calmIn 21 = .ok (.iconst 0, 1) := by decide +kernel
theorem dX5_calmIn_22 : decode cX5_calmIn 22 = .ok (.aload_n 0, 1) := by decide +kernel
theorem dX5_calmIn_23 : decode cX5_calmIn 23 = .ok (.getfield 12, 3) := by decide +kernel
theorem dX5_calmIn_26 : decode cX5_calmIn 26 = .ok (.getfield 173, 3) := by decide +kernel
theorem dX5_calmIn_29 : decode cX5_calmIn 29 = .ok (.iload_n 1, 1) := by decide +kernel
theorem dX5_calmIn_30 : decode cX5_calmIn 30 = .ok (.iaload, 1) := by decide +kernel
theorem dX5_calmIn_31 : decode cX5_calmIn 31 = .ok (.bipush 20, 2) := by decide +kernel
theorem dX5_calmIn_33 : decode cX5_calmIn 33 = .ok (.isub, 1) := by decide +kernel
theorem dX5_calmIn_34 : decode cX5_calmIn 34 = .ok (.invokestatic 194, 3) := by decide +kernel
theorem dX5_calmIn_37 : decode cX5_calmIn 37 = .ok (.ireturn, 1) := by decide +kernel
theorem dX5_ashamed_0 : decode cX5_ashamed 0 = .ok (.iconst 0, 1) := by decide +kernel
theorem dX5_ashamed_1 : decode cX5_ashamed 1 = .ok (.istore_n 2, 1) := by decide +kernel
theorem dX5_ashamed_2 : decode cX5_ashamed 2 = .ok (.iload_n 2, 1) := by decide +kernel
theorem dX5_ashamed_3 : decode cX5_ashamed 3 = .ok (.aload_n 0, 1) := by decide +kernel
theorem dX5_ashamed_4 : decode cX5_ashamed 4 = .ok (.getfield 12, 3) := by decide +kernel
theorem dX5_ashamed_7 : decode cX5_ashamed 7 = .ok (.getfield 199, 3) := by decide +kernel
theorem dX5_ashamed_10 : decode cX5_ashamed 10 = .ok (.if_icmp .ge 23, 3) := by decide +kernel
theorem dX5_ashamed_13 : decode cX5_ashamed 13 = .ok (.aload_n 0, 1) := by decide +kernel
theorem dX5_ashamed_14 : decode cX5_ashamed 14 = .ok (.getfield 12, 3) := by decide +kernel
theorem dX5_ashamed_17 : decode cX5_ashamed 17 = .ok (.iload_n 2, 1) := by decide +kernel
theorem dX5_ashamed_18 : decode cX5_ashamed 18 = .ok (.invokevirtual 202, 3) := by decide +kernel
theorem dX5_ashamed_21 : decode cX5_ashamed 21 = .ok (.iload_n 1, 1) := by decide +kernel
theorem dX5_ashamed_22 : decode cX5_ashamed 22 = .ok (.if_icmp .ne 5, 3) := by decide +kernel
theorem dX5_ashamed_25 : decode cX5_ashamed 25 = .ok (.iload_n 2, 1) := by decide +kernel
theorem dX5_ashamed_26 : decode cX5_ashamed 26 = .ok (.ireturn, 1) := by decide +kernel
theorem dX5_ashamed_27 : decode cX5_ashamed 27 = .ok (.iinc 2 1, 3) := by decide +kernel
theorem dX5_ashamed_30 : decode cX5_ashamed 30 = .ok (.goto (-28), 3) := by decide +kernel
theorem dX5_ashamed_33 : decode cX5_ashamed 33 = .ok (.new 168, 3) := by decide +kernel
theorem dX5_ashamed_36 : decode cX5_ashamed 36 = .ok (.dup, 1) := by decide +kernel
theorem dX5_ashamed_37 : decode cX5_ashamed 37 = .ok (.ldc 128, 2) := by decide +kernel
theorem dX5_ashamed_39 : decode cX5_ashamed 39 = .ok (.invokespecial 172, 3) := by decide +kernel
theorem dX5_ashamed_42 : decode cX5_ashamed 42 = .ok (.athrow, 1) := by decide +kernel
theorem dX5_worst_0 : decode cX5_worst 0 = .ok (.iconst 0, 1) := by decide +kernel
theorem dX5_worst_1 : decode cX5_worst 1 = .ok (.istore_n 2, 1) := by decide +kernel
theorem dX5_worst_2 : decode cX5_worst 2 = .ok (.iload_n 2, 1) := by decide +kernel
theorem dX5_worst_3 : decode cX5_worst 3 = .ok (.aload_n 0, 1) := by decide +kernel
theorem dX5_worst_4 : decode cX5_worst 4 = .ok (.getfield 12, 3) := by decide +kernel
theorem dX5_worst_7 : decode cX5_worst 7 = .ok (.getfield 188, 3) := by decide +kernel
theorem dX5_worst_10 : decode cX5_worst 10 = .ok (.if_icmp .ge 23, 3) := by decide +kernel
theorem dX5_worst_13 : decode cX5_worst 13 = .ok (.aload_n 0, 1) := by decide +kernel
theorem dX5_worst_14 : decode cX5_worst 14 = .ok (.getfield 12, 3) := by decide +kernel
theorem dX5_worst_17 : decode cX5_worst 17 = .ok (.iload_n 2, 1) := by decide +kernel
theorem dX5_worst_18 : decode cX5_worst 18 = .ok (.invokevirtual 205, 3) := by decide +kernel
theorem dX5_worst_21 : decode cX5_worst 21 = .ok (.iload_n 1, 1) := by decide +kernel
theorem dX5_worst_22 : decode cX5_worst 22 = .ok (.if_icmp .ne 5, 3) := by decide +kernel
theorem dX5_worst_25 : decode cX5_worst 25 = .ok (.iload_n 2, 1) := by decide +kernel
theorem dX5_worst_26 : decode cX5_worst 26 = .ok (.ireturn, 1) := by decide +kernel
theorem dX5_worst_27 : decode cX5_worst 27 = .ok (.iinc 2 1, 3) := by decide +kernel
theorem dX5_worst_30 : decode cX5_worst 30 = .ok (.goto (-28), 3) := by decide +kernel
theorem dX5_worst_33 : decode cX5_worst 33 = .ok (.new 168, 3) := by decide +kernel
theorem dX5_worst_36 : decode cX5_worst 36 = .ok (.dup, 1) := by decide +kernel
theorem dX5_worst_37 : decode cX5_worst 37 = .ok (.ldc 128, 2) := by decide +kernel
theorem dX5_worst_39 : decode cX5_worst 39 = .ok (.invokespecial 172, 3) := by decide +kernel
theorem dX5_worst_42 : decode cX5_worst 42 = .ok (.athrow, 1) := by decide +kernel
theorem dX5_line_0 : decode cX5_line 0 = .ok (.aload_n 0, 1) := by decide +kernel
theorem dX5_line_1 : decode cX5_line 1 = .ok (.getfield 12, 3) := by decide +kernel
theorem dX5_line_4 : decode cX5_line 4 = .ok (.iload_n 1, 1) := by decide +kernel
theorem dX5_line_5 : decode cX5_line 5 = .ok (.invokevirtual 114, 3) := by decide +kernel
theorem dX5_line_8 : decode cX5_line 8 = .ok (.ifCond .ne 13, 3) := by decide +kernel
theorem dX5_line_11 : decode cX5_line 11 = .ok (.new 99, 3) := by decide +kernel
theorem dX5_line_14 : decode cX5_line 14 = .ok (.dup, 1) := by decide +kernel
theorem dX5_line_15 : decode cX5_line 15 = .ok (.ldc 117, 2) := by decide +kernel
theorem dX5_line_17 : decode cX5_line 17 = .ok (.invokespecial 103, 3) := by decide +kernel
theorem dX5_line_20 : decode cX5_line 20 = .ok (.athrow, 1) := by decide +kernel
theorem dX5_line_21 : decode cX5_line 21 = .ok (.aload_n 0, 1) := by decide +kernel
theorem dX5_line_22 : decode cX5_line 22 = .ok (.getfield 49, 3) := by decide +kernel
theorem dX5_line_25 : decode cX5_line 25 = .ok (.iconst 0, 1) := by decide +kernel
theorem dX5_line_26 : decode cX5_line 26 = .ok (.putfield 208, 3) := by decide +kernel
theorem dX5_line_29 : decode cX5_line 29 = .ok (.aload_n 0, 1) := by decide +kernel
theorem dX5_line_30 : decode cX5_line 30 = .ok (.getfield 49, 3) := by decide +kernel
theorem dX5_line_33 : decode cX5_line 33 = .ok (.aload_n 0, 1) := by decide +kernel
theorem dX5_line_34 : decode cX5_line 34 = .ok (.getfield 12, 3) := by decide +kernel
theorem dX5_line_37 : decode cX5_line 37 = .ok (.getfield 159, 3) := by decide +kernel
theorem dX5_line_40 : decode cX5_line 40 = .ok (.iload_n 1, 1) := by decide +kernel
theorem dX5_line_41 : decode cX5_line 41 = .ok (.iaload, 1) := by decide +kernel
theorem dX5_line_42 : decode cX5_line 42 = .ok (.invokevirtual 211, 3) := by decide +kernel
theorem dX5_line_45 : decode cX5_line 45 = .ok (.aload_n 0, 1) := by decide +kernel
theorem dX5_line_46 : decode cX5_line 46 = .ok (.getfield 49, 3) := by decide +kernel
theorem dX5_line_49 : decode cX5_line 49 = .ok (.bipush 58, 2) := by decide +kernel
theorem dX5_line_51 : decode cX5_line 51 = .ok (.invokevirtual 215, 3) := by decide +kernel
theorem dX5_line_54 : decode cX5_line 54 = .ok (.iconst 0, 1) := by decide +kernel
theorem dX5_line_55 : decode cX5_line 55 = .ok (.istore_n 2, 1) := by decide +kernel
theorem dX5_line_56 : decode cX5_line 56 = .ok (.iload_n 2, 1) := by decide +kernel
theorem dX5_line_57 : decode cX5_line 57 = .ok (.aload_n 0, 1) := by decide +kernel
theorem dX5_line_58 : decode cX5_line 58 = .ok (.getfield 12, 3) := by decide +kernel
theorem dX5_line_61 : decode cX5_line 61 = .ok (.getfield 219, 3) := by decide +kernel
theorem dX5_line_64 : decode cX5_line 64 = .ok (.iload_n 1, 1) := by decide +kernel
theorem dX5_line_65 : decode cX5_line 65 = .ok (.iaload, 1) := by decide +kernel
theorem dX5_line_66 : decode cX5_line 66 = .ok (.if_icmp .ge 15, 3) := by decide +kernel
theorem dX5_line_69 : decode cX5_line 69 = .ok (.aload_n 0, 1) := by decide +kernel
theorem dX5_line_70 : decode cX5_line 70 = .ok (.iload_n 1, 1) := by decide +kernel
theorem dX5_line_71 : decode cX5_line 71 = .ok (.iload_n 2, 1) := by decide +kernel
theorem dX5_line_72 : decode cX5_line 72 = .ok (.invokevirtual 222, 3) := by decide +kernel
theorem dX5_line_75 : decode cX5_line 75 = .ok (.iinc 2 1, 3) := by decide +kernel
theorem dX5_line_78 : decode cX5_line 78 = .ok (.goto (-22), 3) := by decide +kernel
theorem dX5_line_81 : decode cX5_line 81 = .ok (.aload_n 0, 1) := by decide +kernel
theorem dX5_line_82 : decode cX5_line 82 = .ok (.getfield 49, 3) := by decide +kernel
theorem dX5_line_85 : decode cX5_line 85 = .ok (.getfield 208, 3) := by decide +kernel
theorem dX5_line_88 : decode cX5_line 88 = .ok (.ireturn, 1) := by decide +kernel
theorem dX5_houseLine_0 : decode cX5_houseLine 0 = .ok (.aload_n 0, 1) := by decide +kernel
theorem dX5_houseLine_1 : decode cX5_houseLine 1 = .ok (.getfield 12, 3) := by decide +kernel
theorem dX5_houseLine_4 : decode cX5_houseLine 4 = .ok (.iload_n 1, 1) := by decide +kernel
theorem dX5_houseLine_5 : decode cX5_houseLine 5 = .ok (.invokevirtual 95, 3) := by decide +kernel
theorem dX5_houseLine_8 : decode cX5_houseLine 8 = .ok (.ifCond .ne 13, 3) := by decide +kernel
theorem dX5_houseLine_11 : decode cX5_houseLine 11 = .ok (.new 99, 3) := by decide +kernel
theorem dX5_houseLine_14 : decode cX5_houseLine 14 = .ok (.dup, 1) := by decide +kernel
theorem dX5_houseLine_15 : decode cX5_houseLine 15 = .ok (.ldc 101, 2) := by decide +kernel
theorem dX5_houseLine_17 : decode cX5_houseLine 17 = .ok (.invokespecial 103, 3) := by decide +kernel
theorem dX5_houseLine_20 : decode cX5_houseLine 20 = .ok (.athrow, 1) := by decide +kernel
theorem dX5_houseLine_21 : decode cX5_houseLine 21 = .ok (.aload_n 0, 1) := by decide +kernel
theorem dX5_houseLine_22 : decode cX5_houseLine 22 = .ok (.getfield 49, 3) := by decide +kernel
theorem dX5_houseLine_25 : decode cX5_houseLine 25 = .ok (.iconst 0, 1) := by decide +kernel
theorem dX5_houseLine_26 : decode cX5_houseLine 26 = .ok (.putfield 208, 3) := by decide +kernel
theorem dX5_houseLine_29 : decode cX5_houseLine 29 = .ok (.aload_n 0, 1) := by decide +kernel
theorem dX5_houseLine_30 : decode cX5_houseLine 30 = .ok (.getfield 49, 3) := by decide +kernel
theorem dX5_houseLine_33 : decode cX5_houseLine 33 = .ok (.iload_n 1, 1) := by decide +kernel
theorem dX5_houseLine_34 : decode cX5_houseLine 34 = .ok (.invokevirtual 211, 3) := by decide +kernel
theorem dX5_houseLine_37 : decode cX5_houseLine 37 = .ok (.aload_n 0, 1) := by decide +kernel
theorem dX5_houseLine_38 : decode cX5_houseLine 38 = .ok (.getfield 49, 3) := by decide +kernel
theorem dX5_houseLine_41 : decode cX5_houseLine 41 = .ok (.bipush 36, 2) := by decide +kernel
theorem dX5_houseLine_43 : decode cX5_houseLine 43 = .ok (.invokevirtual 215, 3) := by decide +kernel
theorem dX5_houseLine_46 : decode cX5_houseLine 46 = .ok (.aload_n 0, 1) := by decide +kernel
theorem dX5_houseLine_47 : decode cX5_houseLine 47 = .ok (.getfield 49, 3) := by decide +kernel
theorem dX5_houseLine_50 : decode cX5_houseLine 50 = .ok (.aload_n 0, 1) := by decide +kernel
theorem dX5_houseLine_51 : decode cX5_houseLine 51 = .ok (.getfield 12, 3) := by decide +kernel
theorem dX5_houseLine_54 : decode cX5_houseLine 54 = .ok (.getfield 155, 3) := by decide +kernel
theorem dX5_houseLine_57 : decode cX5_houseLine 57 = .ok (.iload_n 1, 1) := by decide +kernel
theorem dX5_houseLine_58 : decode cX5_houseLine 58 = .ok (.iaload, 1) := by decide +kernel
theorem dX5_houseLine_59 : decode cX5_houseLine 59 = .ok (.invokevirtual 211, 3) := by decide +kernel
theorem dX5_houseLine_62 : decode cX5_houseLine 62 = .ok (.aload_n 0, 1) := by decide +kernel
theorem dX5_houseLine_63 : decode cX5_houseLine 63 = .ok (.getfield 49, 3) := by decide +kernel
theorem dX5_houseLine_66 : decode cX5_houseLine 66 = .ok (.bipush 126, 2) := by decide +kernel
theorem dX5_houseLine_68 : decode cX5_houseLine 68 = .ok (.invokevirtual 215, 3) := by decide +kernel
theorem dX5_houseLine_71 : decode cX5_houseLine 71 = .ok (.aload_n 0, 1) := by decide +kernel
theorem dX5_houseLine_72 : decode cX5_houseLine 72 = .ok (.getfield 49, 3) := by decide +kernel
theorem dX5_houseLine_75 : decode cX5_houseLine 75 = .ok (.aload_n 0, 1) := by decide +kernel
theorem dX5_houseLine_76 : decode cX5_houseLine 76 = .ok (.getfield 12, 3) := by decide +kernel
theorem dX5_houseLine_79 : decode cX5_houseLine 79 = .ok (.getfield 173, 3) := by decide +kernel
theorem dX5_houseLine_82 : decode cX5_houseLine 82 = .ok (.iload_n 1, 1) := by decide +kernel
theorem dX5_houseLine_83 : decode cX5_houseLine 83 = .ok (.iaload, 1) := by decide +kernel
theorem dX5_houseLine_84 : decode cX5_houseLine 84 = .ok (.invokevirtual 211, 3) := by decide +kernel
theorem dX5_houseLine_87 : decode cX5_houseLine 87 = .ok (.aload_n 0, 1) := by decide +kernel
theorem dX5_houseLine_88 : decode cX5_houseLine 88 = .ok (.getfield 12, 3) := by decide +kernel
theorem dX5_houseLine_91 : decode cX5_houseLine 91 = .ok (.iload_n 1, 1) := by decide +kernel
theorem dX5_houseLine_92 : decode cX5_houseLine 92 = .ok (.invokevirtual 226, 3) := by decide +kernel
theorem dX5_houseLine_95 : decode cX5_houseLine 95 = .ok (.ifCond .eq 12, 3) := by decide +kernel
theorem dX5_houseLine_98 : decode cX5_houseLine 98 = .ok (.aload_n 0, 1) := by decide +kernel
theorem dX5_houseLine_99 : decode cX5_houseLine 99 = .ok (.getfield 49, 3) := by decide +kernel
theorem dX5_houseLine_102 : decode cX5_houseLine 102 = .ok (.bipush 42, 2) := by decide +kernel
theorem dX5_houseLine_104 : decode cX5_houseLine 104 = .ok (.invokevirtual 215, 3) := by decide +kernel
theorem dX5_houseLine_107 : decode cX5_houseLine 107 = .ok (.aload_n 0, 1) := by decide +kernel
theorem dX5_houseLine_108 : decode cX5_houseLine 108 = .ok (.getfield 49, 3) := by decide +kernel
theorem dX5_houseLine_111 : decode cX5_houseLine 111 = .ok (.getfield 208, 3) := by decide +kernel
theorem dX5_houseLine_114 : decode cX5_houseLine 114 = .ok (.ireturn, 1) := by decide +kernel
theorem dX5_character_0 : decode cX5_character 0 = .ok (.iload_n 1, 1) := by decide +kernel
theorem dX5_character_1 : decode cX5_character 1 = .ok (.ifCond .lt 14, 3) := by decide +kernel
theorem dX5_character_4 : decode cX5_character 4 = .ok (.iload_n 1, 1) := by decide +kernel
theorem dX5_character_5 : decode cX5_character 5 = .ok (.aload_n 0, 1) := by decide +kernel
theorem dX5_character_6 : decode cX5_character 6 = .ok (.getfield 49, 3) := by decide +kernel
theorem dX5_character_9 : decode cX5_character 9 = .ok (.getfield 208, 3) := by decide +kernel
theorem dX5_character_12 : decode cX5_character 12 = .ok (.if_icmp .lt 13, 3) := by decide +kernel
theorem dX5_character_15 : decode cX5_character 15 = .ok (.new 99, 3) := by decide +kernel
theorem dX5_character_18 : decode cX5_character 18 = .ok (.dup, 1) := by decide +kernel
theorem dX5_character_19 : decode cX5_character 19 = .ok (.ldc 229, 2) := by decide +kernel
theorem dX5_character_21 : decode cX5_character 21 = .ok (.invokespecial 103, 3) := by decide +kernel
theorem dX5_character_24 : decode cX5_character 24 = .ok (.athrow, 1) := by decide +kernel
theorem dX5_character_25 : decode cX5_character 25 = .ok (.aload_n 0, 1) := by decide +kernel
theorem dX5_character_26 : decode cX5_character 26 = .ok (.getfield 49, 3) := by decide +kernel
theorem dX5_character_29 : decode cX5_character 29 = .ok (.getfield 231, 3) := by decide +kernel
theorem dX5_character_32 : decode cX5_character 32 = .ok (.iload_n 1, 1) := by decide +kernel
theorem dX5_character_33 : decode cX5_character 33 = .ok (.caload, 1) := by decide +kernel
theorem dX5_character_34 : decode cX5_character 34 = .ok (.ireturn, 1) := by decide +kernel
theorem dX5_append_0 : decode cX5_append 0 = .ok (.aload_n 0, 1) := by decide +kernel
theorem dX5_append_1 : decode cX5_append 1 = .ok (.getfield 42, 3) := by decide +kernel
theorem dX5_append_4 : decode cX5_append 4 = .ok (.getfield 235, 3) := by decide +kernel
theorem dX5_append_7 : decode cX5_append 7 = .ok (.bipush 60, 2) := by decide +kernel
theorem dX5_append_9 : decode cX5_append 9 = .ok (.if_icmp .lt 13, 3) := by decide +kernel
theorem dX5_append_12 : decode cX5_append 12 = .ok (.new 236, 3) := by decide +kernel
theorem dX5_append_15 : decode cX5_append 15 = .ok (.dup, 1) := by decide +kernel
theorem dX5_append_16 : decode cX5_append 16 = .ok (.ldc 238, 2) := by decide +kernel
theorem dX5_append_18 : decode cX5_append 18 = .ok (.invokespecial 240, 3) := by decide +kernel
theorem dX5_append_21 : decode cX5_append 21 = .ok (.athrow, 1) := by decide +kernel
theorem dX5_append_22 : decode cX5_append 22 = .ok (.aload_n 0, 1) := by decide +kernel
theorem dX5_append_23 : decode cX5_append 23 = .ok (.getfield 42, 3) := by decide +kernel
theorem dX5_append_26 : decode cX5_append 26 = .ok (.getfield 241, 3) := by decide +kernel
theorem dX5_append_29 : decode cX5_append 29 = .ok (.aload_n 0, 1) := by decide +kernel
theorem dX5_append_30 : decode cX5_append 30 = .ok (.getfield 42, 3) := by decide +kernel
theorem dX5_append_33 : decode cX5_append 33 = .ok (.getfield 235, 3) := by decide +kernel
theorem dX5_append_36 : decode cX5_append 36 = .ok (.iload_n 1, 1) := by decide +kernel
theorem dX5_append_37 : decode cX5_append 37 = .ok (.castore, 1) := by decide +kernel
theorem dX5_append_38 : decode cX5_append 38 = .ok (.aload_n 0, 1) := by decide +kernel
theorem dX5_append_39 : decode cX5_append 39 = .ok (.getfield 42, 3) := by decide +kernel
theorem dX5_append_42 : decode cX5_append 42 = .ok (.dup, 1) := by decide +kernel
theorem dX5_append_43 : decode cX5_append 43 = .ok (.getfield 235, 3) := by decide +kernel
theorem dX5_append_46 : decode cX5_append 46 = .ok (.iconst 1, 1) := by decide +kernel
theorem dX5_append_47 : decode cX5_append 47 = .ok (.iadd, 1) := by decide +kernel
theorem dX5_append_48 : decode cX5_append 48 = .ok (.putfield 235, 3) := by decide +kernel
theorem dX5_append_51 : decode cX5_append 51 = .ok (.aload_n 0, 1) := by decide +kernel
theorem dX5_append_52 : decode cX5_append 52 = .ok (.getfield 42, 3) := by decide +kernel
theorem dX5_append_55 : decode cX5_append 55 = .ok (.getfield 235, 3) := by decide +kernel
theorem dX5_append_58 : decode cX5_append 58 = .ok (.ireturn, 1) := by decide +kernel
theorem dX5_run_0 : decode cX5_run 0 = .ok (.aload_n 0, 1) := by decide +kernel
theorem dX5_run_1 : decode cX5_run 1 = .ok (.aload_n 0, 1) := by decide +kernel
theorem dX5_run_2 : decode cX5_run 2 = .ok (.getfield 42, 3) := by decide +kernel
theorem dX5_run_5 : decode cX5_run 5 = .ok (.invokevirtual 242, 3) := by decide +kernel
theorem dX5_run_8 : decode cX5_run 8 = .ok (.putfield 53, 3) := by decide +kernel
theorem dX5_run_11 : decode cX5_run 11 = .ok (.aload_n 0, 1) := by decide +kernel
theorem dX5_run_12 : decode cX5_run 12 = .ok (.getfield 16, 3) := by decide +kernel
theorem dX5_run_15 : decode cX5_run 15 = .ok (.aload_n 0, 1) := by decide +kernel
theorem dX5_run_16 : decode cX5_run 16 = .ok (.getfield 12, 3) := by decide +kernel
theorem dX5_run_19 : decode cX5_run 19 = .ok (.invokevirtual 57, 3) := by decide +kernel
theorem dX5_run_22 : decode cX5_run 22 = .ok (.aload_n 0, 1) := by decide +kernel
theorem dX5_run_23 : decode cX5_run 23 = .ok (.getfield 53, 3) := by decide +kernel
theorem dX5_run_26 : decode cX5_run 26 = .ok (.iconst (-1), 1) := by decide +kernel
theorem dX5_run_27 : decode cX5_run 27 = .ok (.if_icmp .ne 10, 3) := by decide +kernel
theorem dX5_run_30 : decode cX5_run 30 = .ok (.aload_n 0, 1) := by decide +kernel
theorem dX5_run_31 : decode cX5_run 31 = .ok (.invokevirtual 245, 3) := by decide +kernel
theorem dX5_run_34 : decode cX5_run 34 = .ok (.goto 5, 3) := by decide +kernel
theorem dX5_run_37 : decode cX5_run 37 = .ok (.bipush (-2), 2) := by decide +kernel
theorem dX5_run_39 : decode cX5_run 39 = .ok (.istore_n 1, 1) := by decide +kernel
theorem dX5_run_40 : decode cX5_run 40 = .ok (.aload_n 0, 1) := by decide +kernel
theorem dX5_run_41 : decode cX5_run 41 = .ok (.getfield 42, 3) := by decide +kernel
theorem dX5_run_44 : decode cX5_run 44 = .ok (.iconst 0, 1) := by decide +kernel
theorem dX5_run_45 : decode cX5_run 45 = .ok (.putfield 235, 3) := by decide +kernel
theorem dX5_run_48 : decode cX5_run 48 = .ok (.iload_n 1, 1) := by decide +kernel
theorem dX5_run_49 : decode cX5_run 49 = .ok (.ifCond .ge 14, 3) := by decide +kernel
theorem dX5_run_52 : decode cX5_run 52 = .ok (.aload_n 0, 1) := by decide +kernel
theorem dX5_run_53 : decode cX5_run 53 = .ok (.getfield 12, 3) := by decide +kernel
theorem dX5_run_56 : decode cX5_run 56 = .ok (.aload_n 0, 1) := by decide +kernel
theorem dX5_run_57 : decode cX5_run 57 = .ok (.getfield 16, 3) := by decide +kernel
theorem dX5_run_60 : decode cX5_run 60 = .ok (.invokevirtual 57, 3) := by decide +kernel
theorem dX5_run_63 : decode cX5_run 63 = .ok (.iload_n 1, 1) := by decide +kernel
theorem dX5_run_64 : decode cX5_run 64 = .ok (.bipush (-3), 2) := by decide +kernel
theorem dX5_run_66 : decode cX5_run 66 = .ok (.if_icmp .ne 13, 3) := by decide +kernel
theorem dX5_run_69 : decode cX5_run 69 = .ok (.new 248, 3) := by decide +kernel
theorem dX5_run_72 : decode cX5_run 72 = .ok (.dup, 1) := by decide +kernel
theorem dX5_run_73 : decode cX5_run 73 = .ok (.ldc 250, 2) := by decide +kernel
theorem dX5_run_75 : decode cX5_run 75 = .ok (.invokespecial 252, 3) := by decide +kernel
theorem dX5_run_78 : decode cX5_run 78 = .ok (.athrow, 1) := by decide +kernel
theorem dX5_run_79 : decode cX5_run 79 = .ok (.iload_n 1, 1) := by decide +kernel
theorem dX5_run_80 : decode cX5_run 80 = .ok (.ifCond .ge 13, 3) := by decide +kernel
theorem dX5_run_83 : decode cX5_run 83 = .ok (.new 106, 3) := by decide +kernel
theorem dX5_run_86 : decode cX5_run 86 = .ok (.dup, 1) := by decide +kernel
theorem dX5_run_87 : decode cX5_run 87 = .ok (.ldc 253, 2) := by decide +kernel
theorem dX5_run_89 : decode cX5_run 89 = .ok (.invokespecial 110, 3) := by decide +kernel
theorem dX5_run_92 : decode cX5_run 92 = .ok (.athrow, 1) := by decide +kernel
theorem dX5_run_93 : decode cX5_run 93 = .ok (.aload_n 0, 1) := by decide +kernel
theorem dX5_run_94 : decode cX5_run 94 = .ok (.getfield 28, 3) := by decide +kernel
theorem dX5_run_97 : decode cX5_run 97 = .ok (.aload_n 0, 1) := by decide +kernel
theorem dX5_run_98 : decode cX5_run 98 = .ok (.getfield 16, 3) := by decide +kernel
theorem dX5_run_101 : decode cX5_run 101 = .ok (.invokevirtual 255, 3) := by decide +kernel
theorem dX5_run_104 : decode cX5_run 104 = .ok (.iload_n 1, 1) := by decide +kernel
theorem dX5_run_105 : decode cX5_run 105 = .ok (.ireturn, 1) := by decide +kernel
theorem dX5_errorPosition_0 : decode cX5_errorPosition 0 = .ok (.aload_n 0, 1) := by decide +kernel
theorem dX5_errorPosition_1 : decode cX5_errorPosition 1 = .ok (.getfield 53, 3) := by decide +kernel
theorem dX5_errorPosition_4 : decode cX5_errorPosition 4 = .ok (.ireturn, 1) := by decide +kernel
theorem dX5_refusal_0 : decode cX5_refusal 0 = .ok (.iload_n 1, 1) := by decide +kernel
theorem dX5_refusal_1 : decode cX5_refusal 1 = .ok (.ifCond .eq 13, 3) := by decide +kernel
theorem dX5_refusal_4 : decode cX5_refusal 4 = .ok (.aload_n 0, 1) := by decide +kernel
theorem dX5_refusal_5 : decode cX5_refusal 5 = .ok (.getfield 35, 3) := by decide +kernel
theorem dX5_refusal_8 : decode cX5_refusal 8 = .ok (.getfield 258, 3) := by decide +kernel
theorem dX5_refusal_11 : decode cX5_refusal 11 = .ok (.goto 10, 3) := by decide +kernel
theorem dX5_refusal_14 : decode cX5_refusal 14 = .ok (.aload_n 0, 1) := by decide +kernel
theorem dX5_refusal_15 : decode cX5_refusal 15 = .ok (.getfield 35, 3) := by decide +kernel
theorem dX5_refusal_18 : decode cX5_refusal 18 = .ok (.getfield 261, 3) := by decide +kernel
theorem dX5_refusal_21 : decode cX5_refusal 21 = .ok (.istore_n 3, 1) := by decide +kernel
theorem dX5_refusal_22 : decode cX5_refusal 22 = .ok (.iload_n 3, 1) := by decide +kernel
theorem dX5_refusal_23 : decode cX5_refusal 23 = .ok (.ifCond .ne 14, 3) := by decide +kernel
theorem dX5_refusal_26 : decode cX5_refusal 26 = .ok (.new 168, 3) := by decide +kernel
theorem dX5_refusal_29 : decode cX5_refusal 29 = .ok (.dup, 1) := by decide +kernel
theorem dX5_refusal_30 : decode cX5_refusal 30 = .ok (.ldc_w 264, 3) := by decide +kernel
theorem dX5_refusal_33 : decode cX5_refusal 33 = .ok (.invokespecial 172, 3) := by decide +kernel
theorem dX5_refusal_36 : decode cX5_refusal 36 = .ok (.athrow, 1) := by decide +kernel
theorem dX5_refusal_37 : decode cX5_refusal 37 = .ok (.iload_n 2, 1) := by decide +kernel
theorem dX5_refusal_38 : decode cX5_refusal 38 = .ok (.ifCond .ne 5, 3) := by decide +kernel
theorem dX5_refusal_41 : decode cX5_refusal 41 = .ok (.iload_n 3, 1) := by decide +kernel
theorem dX5_refusal_42 : decode cX5_refusal 42 = .ok (.ireturn, 1) := by decide +kernel
theorem dX5_refusal_43 : decode cX5_refusal 43 = .ok (.iload_n 1, 1) := by decide +kernel
theorem dX5_refusal_44 : decode cX5_refusal 44 = .ok (.ifCond .eq 13, 3) := by decide +kernel
theorem dX5_refusal_47 : decode cX5_refusal 47 = .ok (.aload_n 0, 1) := by decide +kernel
theorem dX5_refusal_48 : decode cX5_refusal 48 = .ok (.getfield 35, 3) := by decide +kernel
theorem dX5_refusal_51 : decode cX5_refusal 51 = .ok (.getfield 266, 3) := by decide +kernel
theorem dX5_refusal_54 : decode cX5_refusal 54 = .ok (.goto 10, 3) := by decide +kernel
theorem dX5_refusal_57 : decode cX5_refusal 57 = .ok (.aload_n 0, 1) := by decide +kernel
theorem dX5_refusal_58 : decode cX5_refusal 58 = .ok (.getfield 35, 3) := by decide +kernel
theorem dX5_refusal_61 : decode cX5_refusal 61 = .ok (.getfield 269, 3) := by decide +kernel
theorem dX5_refusal_64 : decode cX5_refusal 64 = .ok (.ireturn, 1) := by decide +kernel
theorem dX5_account_0 : decode cX5_account 0 = .ok (.iload_n 1, 1) := by decide +kernel
theorem dX5_account_1 : decode cX5_account 1 = .ok (.ifCond .lt 9, 3) := by decide +kernel
theorem dX5_account_4 : decode cX5_account 4 = .ok (.iload_n 1, 1) := by decide +kernel
theorem dX5_account_5 : decode cX5_account 5 = .ok (.bipush 14, 2) := by decide +kernel
theorem dX5_account_7 : decode cX5_account 7 = .ok (.if_icmp .le 14, 3) := by decide +kernel
theorem dX5_account_10 : decode cX5_account 10 = .ok (.new 106, 3) := by decide +kernel
theorem dX5_account_13 : decode cX5_account 13 = .ok (.dup, 1) := by decide +kernel
theorem dX5_account_14 : decode cX5_account 14 = .ok (.ldc_w 272, 3) := by decide +kernel
theorem dX5_account_17 : decode cX5_account 17 = .ok (.invokespecial 110, 3) := by decide +kernel
theorem dX5_account_20 : decode cX5_account 20 = .ok (.athrow, 1) := by decide +kernel
theorem dX5_account_21 : decode cX5_account 21 = .ok (.iload_n 1, 1) := by decide +kernel
theorem dX5_account_22 : decode cX5_account 22 = .ok (.bipush 13, 2) := by decide +kernel
theorem dX5_account_24 : decode cX5_account 24 = .ok (.if_icmp .ne 11, 3) := by decide +kernel
theorem dX5_account_27 : decode cX5_account 27 = .ok (.aload_n 0, 1) := by decide +kernel
theorem dX5_account_28 : decode cX5_account 28 = .ok (.getfield 42, 3) := by decide +kernel
theorem dX5_account_31 : decode cX5_account 31 = .ok (.getfield 235, 3) := by decide +kernel
theorem dX5_account_34 : decode cX5_account 34 = .ok (.ireturn, 1) := by decide +kernel
theorem dX5_account_35 : decode cX5_account 35 = .ok (.iload_n 1, 1) := by decide +kernel
theorem dX5_account_36 : decode cX5_account 36 = .ok (.bipush 14, 2) := by decide +kernel
theorem dX5_account_38 : decode cX5_account 38 = .ok (.if_icmp .ne 11, 3) := by decide +kernel
theorem dX5_account_41 : decode cX5_account 41 = .ok (.aload_n 0, 1) := by decide +kernel
theorem dX5_account_42 : decode cX5_account 42 = .ok (.getfield 28, 3) := by decide +kernel
theorem dX5_account_45 : decode cX5_account 45 = .ok (.getfield 274, 3) := by decide +kernel
theorem dX5_account_48 : decode cX5_account 48 = .ok (.ireturn, 1) := by decide +kernel
theorem dX5_account_49 : decode cX5_account 49 = .ok (.aload_n 0, 1) := by decide +kernel
theorem dX5_account_50 : decode cX5_account 50 = .ok (.getfield 12, 3) := by decide +kernel
theorem dX5_account_53 : decode cX5_account 53 = .ok (.iload_n 1, 1) := by decide +kernel
theorem dX5_account_54 : decode cX5_account 54 = .ok (.invokevirtual 277, 3) := by decide +kernel
theorem dX5_account_57 : decode cX5_account 57 = .ok (.ireturn, 1) := by decide +kernel
theorem dX5_isWell_0 : decode cX5_isWell 0 = .ok (.aload_n 0, 1) := by decide +kernel
theorem dX5_isWell_1 : decode cX5_isWell 1 = .ok (.getfield 12, 3) := by decide +kernel
theorem dX5_isWell_4 : decode cX5_isWell 4 = .ok (.invokevirtual 185, 3) := by decide +kernel
theorem dX5_isWell_7 : decode cX5_isWell 7 = .ok (.aload_n 0, 1) := by decide +kernel
theorem dX5_isWell_8 : decode cX5_isWell 8 = .ok (.getfield 12, 3) := by decide +kernel
theorem dX5_isWell_11 : decode cX5_isWell 11 = .ok (.invokevirtual 182, 3) := by decide +kernel
theorem dX5_isWell_14 : decode cX5_isWell 14 = .ok (.if_icmp .eq 5, 3) := by decide +kernel
theorem dX5_isWell_17 : decode cX5_isWell 17 = .ok (.iconst 0, 1) := by decide +kernel
theorem dX5_isWell_18 : decode cX5_isWell 18 = .ok (.ireturn, 1) := by decide +kernel
theorem dX5_isWell_19 : decode cX5_isWell 19 = .ok (.iconst 0, 1) := by decide +kernel
theorem dX5_isWell_20 : decode cX5_isWell 20 = .ok (.istore_n 1, 1) := by decide +kernel
theorem dX5_isWell_21 : decode cX5_isWell 21 = .ok (.iload_n 1, 1) := by decide +kernel
theorem dX5_isWell_22 : decode cX5_isWell 22 = .ok (.aload_n 0, 1) := by decide +kernel
theorem dX5_isWell_23 : decode cX5_isWell 23 = .ok (.getfield 12, 3) := by decide +kernel
theorem dX5_isWell_26 : decode cX5_isWell 26 = .ok (.getfield 188, 3) := by decide +kernel
theorem dX5_isWell_29 : decode cX5_isWell 29 = .ok (.if_icmp .ge 35, 3) := by decide +kernel
theorem dX5_isWell_32 : decode cX5_isWell 32 = .ok (.aload_n 0, 1) := by decide +kernel
theorem dX5_isWell_33 : decode cX5_isWell 33 = .ok (.getfield 12, 3) := by decide +kernel
theorem dX5_isWell_36 : decode cX5_isWell 36 = .ok (.iload_n 1, 1) := by decide +kernel
theorem dX5_isWell_37 : decode cX5_isWell 37 = .ok (.invokevirtual 152, 3) := by decide +kernel
theorem dX5_isWell_40 : decode cX5_isWell 40 = .ok (.aload_n 0, 1) := by decide +kernel
theorem dX5_isWell_41 : decode cX5_isWell 41 = .ok (.iload_n 1, 1) := by decide +kernel
theorem dX5_isWell_42 : decode cX5_isWell 42 = .ok (.invokevirtual 149, 3) := by decide +kernel
theorem dX5_isWell_45 : decode cX5_isWell 45 = .ok (.if_icmp .ne 11, 3) := by decide +kernel
theorem dX5_isWell_48 : decode cX5_isWell 48 = .ok (.aload_n 0, 1) := by decide +kernel
theorem dX5_isWell_49 : decode cX5_isWell 49 = .ok (.iload_n 1, 1) := by decide +kernel
theorem dX5_isWell_50 : decode cX5_isWell 50 = .ok (.invokevirtual 280, 3) := by decide +kernel
theorem dX5_isWell_53 : decode cX5_isWell 53 = .ok (.ifCond .ne 5, 3) := by decide +kernel
theorem dX5_isWell_56 : decode cX5_isWell 56 = .ok (.iconst 0, 1) := by decide +kernel
theorem dX5_isWell_57 : decode cX5_isWell 57 = .ok (.ireturn, 1) := by decide +kernel
theorem dX5_isWell_58 : decode cX5_isWell 58 = .ok (.iinc 1 1, 3) := by decide +kernel
theorem dX5_isWell_61 : decode cX5_isWell 61 = .ok (.goto (-40), 3) := by decide +kernel
theorem dX5_isWell_64 : decode cX5_isWell 64 = .ok (.iconst 1, 1) := by decide +kernel
theorem dX5_isWell_65 : decode cX5_isWell 65 = .ok (.ireturn, 1) := by decide +kernel
theorem dX5_meanShame_0 : decode cX5_meanShame 0 = .ok (.aload_n 0, 1) := by decide +kernel
theorem dX5_meanShame_1 : decode cX5_meanShame 1 = .ok (.getfield 12, 3) := by decide +kernel
theorem dX5_meanShame_4 : decode cX5_meanShame 4 = .ok (.getfield 199, 3) := by decide +kernel
theorem dX5_meanShame_7 : decode cX5_meanShame 7 = .ok (.ifCond .ne 14, 3) := by decide +kernel
theorem dX5_meanShame_10 : decode cX5_meanShame 10 = .ok (.new 283, 3) := by decide +kernel
theorem dX5_meanShame_13 : decode cX5_meanShame 13 = .ok (.dup, 1) := by decide +kernel
theorem dX5_meanShame_14 : decode cX5_meanShame 14 = .ok (.ldc_w 285, 3) := by decide +kernel
theorem dX5_meanShame_17 : decode cX5_meanShame 17 = .ok (.invokespecial 287, 3) := by decide +kernel
theorem dX5_meanShame_20 : decode cX5_meanShame 20 = .ok (.athrow, 1) := by decide +kernel
theorem dX5_meanShame_21 : decode cX5_meanShame 21 = .ok (.iconst 0, 1) := by decide +kernel
theorem dX5_meanShame_22 : decode cX5_meanShame 22 = .ok (.istore_n 1, 1) := by decide +kernel
theorem dX5_meanShame_23 : decode cX5_meanShame 23 = .ok (.iconst 0, 1) := by decide +kernel
theorem dX5_meanShame_24 : decode cX5_meanShame 24 = .ok (.istore_n 2, 1) := by decide +kernel
theorem dX5_meanShame_25 : decode cX5_meanShame 25 = .ok (.iload_n 2, 1) := by decide +kernel
theorem dX5_meanShame_26 : decode cX5_meanShame 26 = .ok (.aload_n 0, 1) := by decide +kernel
theorem dX5_meanShame_27 : decode cX5_meanShame 27 = .ok (.getfield 12, 3) := by decide +kernel
theorem dX5_meanShame_30 : decode cX5_meanShame 30 = .ok (.getfield 199, 3) := by decide +kernel
theorem dX5_meanShame_33 : decode cX5_meanShame 33 = .ok (.if_icmp .ge 21, 3) := by decide +kernel
theorem dX5_meanShame_36 : decode cX5_meanShame 36 = .ok (.iload_n 1, 1) := by decide +kernel
theorem dX5_meanShame_37 : decode cX5_meanShame 37 = .ok (.aload_n 0, 1) := by decide +kernel
theorem dX5_meanShame_38 : decode cX5_meanShame 38 = .ok (.getfield 12, 3) := by decide +kernel
theorem dX5_meanShame_41 : decode cX5_meanShame 41 = .ok (.getfield 173, 3) := by decide +kernel
theorem dX5_meanShame_44 : decode cX5_meanShame 44 = .ok (.iload_n 2, 1) := by decide +kernel
theorem dX5_meanShame_45 : decode cX5_meanShame 45 = .ok (.iaload, 1) := by decide +kernel
theorem dX5_meanShame_46 : decode cX5_meanShame 46 = .ok (.iadd, 1) := by decide +kernel
theorem dX5_meanShame_47 : decode cX5_meanShame 47 = .ok (.istore_n 1, 1) := by decide +kernel
theorem dX5_meanShame_48 : decode cX5_meanShame 48 = .ok (.iinc 2 1, 3) := by decide +kernel
theorem dX5_meanShame_51 : decode cX5_meanShame 51 = .ok (.goto (-26), 3) := by decide +kernel
theorem dX5_meanShame_54 : decode cX5_meanShame 54 = .ok (.iload_n 1, 1) := by decide +kernel
theorem dX5_meanShame_55 : decode cX5_meanShame 55 = .ok (.i2d, 1) := by decide +kernel
theorem dX5_meanShame_56 : decode cX5_meanShame 56 = .ok (.aload_n 0, 1) := by decide +kernel
theorem dX5_meanShame_57 : decode cX5_meanShame 57 = .ok (.getfield 12, 3) := by decide +kernel
theorem dX5_meanShame_60 : decode cX5_meanShame 60 = .ok (.getfield 199, 3) := by decide +kernel
theorem dX5_meanShame_63 : decode cX5_meanShame 63 = .ok (.i2d, 1) := by decide +kernel
theorem dX5_meanShame_64 : decode cX5_meanShame 64 = .ok (.ddiv, 1) := by decide +kernel
theorem dX5_meanShame_65 : decode cX5_meanShame 65 = .ok (.dreturn, 1) := by decide +kernel
theorem dX5_errorShare_0 : decode cX5_errorShare 0 = .ok (.iconst 0, 1) := by decide +kernel
theorem dX5_errorShare_1 : decode cX5_errorShare 1 = .ok (.istore_n 1, 1) := by decide +kernel
theorem dX5_errorShare_2 : decode cX5_errorShare 2 = .ok (.iconst 0, 1) := by decide +kernel
theorem dX5_errorShare_3 : decode cX5_errorShare 3 = .ok (.istore_n 2, 1) := by decide +kernel
theorem dX5_errorShare_4 : decode cX5_errorShare 4 = .ok (.iload_n 2, 1) := by decide +kernel
theorem dX5_errorShare_5 : decode cX5_errorShare 5 = .ok (.aload_n 0, 1) := by decide +kernel
theorem dX5_errorShare_6 : decode cX5_errorShare 6 = .ok (.getfield 12, 3) := by decide +kernel
theorem dX5_errorShare_9 : decode cX5_errorShare 9 = .ok (.getfield 188, 3) := by decide +kernel
theorem dX5_errorShare_12 : decode cX5_errorShare 12 = .ok (.if_icmp .ge 21, 3) := by decide +kernel
theorem dX5_errorShare_15 : decode cX5_errorShare 15 = .ok (.iload_n 1, 1) := by decide +kernel
theorem dX5_errorShare_16 : decode cX5_errorShare 16 = .ok (.aload_n 0, 1) := by decide +kernel
theorem dX5_errorShare_17 : decode cX5_errorShare 17 = .ok (.getfield 12, 3) := by decide +kernel
theorem dX5_errorShare_20 : decode cX5_errorShare 20 = .ok (.getfield 219, 3) := by decide +kernel
theorem dX5_errorShare_23 : decode cX5_errorShare 23 = .ok (.iload_n 2, 1) := by decide +kernel
theorem dX5_errorShare_24 : decode cX5_errorShare 24 = .ok (.iaload, 1) := by decide +kernel
theorem dX5_errorShare_25 : decode cX5_errorShare 25 = .ok (.iadd, 1) := by decide +kernel
theorem dX5_errorShare_26 : decode cX5_errorShare 26 = .ok (.istore_n 1, 1) := by decide +kernel
theorem dX5_errorShare_27 : decode cX5_errorShare 27 = .ok (.iinc 2 1, 3) := by decide +kernel
theorem dX5_errorShare_30 : decode cX5_errorShare 30 = .ok (.goto (-26), 3) := by decide +kernel
theorem dX5_errorShare_33 : decode cX5_errorShare 33 = .ok (.iload_n 1, 1) := by decide +kernel
theorem dX5_errorShare_34 : decode cX5_errorShare 34 = .ok (.ifCond .ne 14, 3) := by decide +kernel
theorem dX5_errorShare_37 : decode cX5_errorShare 37 = .ok (.new 283, 3) := by decide +kernel
theorem dX5_errorShare_40 : decode cX5_errorShare 40 = .ok (.dup, 1) := by decide +kernel
theorem dX5_errorShare_41 : decode cX5_errorShare 41 = .ok (.ldc_w 288, 3) := by decide +kernel
theorem dX5_errorShare_44 : decode cX5_errorShare 44 = .ok (.invokespecial 287, 3) := by decide +kernel
theorem dX5_errorShare_47 : decode cX5_errorShare 47 = .ok (.athrow, 1) := by decide +kernel
theorem dX5_errorShare_48 : decode cX5_errorShare 48 = .ok (.aload_n 0, 1) := by decide +kernel
theorem dX5_errorShare_49 : decode cX5_errorShare 49 = .ok (.getfield 12, 3) := by decide +kernel
theorem dX5_errorShare_52 : decode cX5_errorShare 52 = .ok (.iconst 1, 1) := by decide +kernel
theorem dX5_errorShare_53 : decode cX5_errorShare 53 = .ok (.invokevirtual 290, 3) := by decide +kernel
theorem dX5_errorShare_56 : decode cX5_errorShare 56 = .ok (.i2f, 1) := by decide +kernel
theorem dX5_errorShare_57 : decode cX5_errorShare 57 = .ok (.iload_n 1, 1) := by decide +kernel
theorem dX5_errorShare_58 : decode cX5_errorShare 58 = .ok (.i2f, 1) := by decide +kernel
theorem dX5_errorShare_59 : decode cX5_errorShare 59 = .ok (.fdiv, 1) := by decide +kernel
theorem dX5_errorShare_60 : decode cX5_errorShare 60 = .ok (.freturn, 1) := by decide +kernel
theorem dX5_undo_0 : decode cX5_undo 0 = .ok (.aload_n 0, 1) := by decide +kernel
theorem dX5_undo_1 : decode cX5_undo 1 = .ok (.getfield 28, 3) := by decide +kernel
theorem dX5_undo_4 : decode cX5_undo 4 = .ok (.getfield 274, 3) := by decide +kernel
theorem dX5_undo_7 : decode cX5_undo 7 = .ok (.ifCond .ne 14, 3) := by decide +kernel
theorem dX5_undo_10 : decode cX5_undo 10 = .ok (.new 236, 3) := by decide +kernel
theorem dX5_undo_13 : decode cX5_undo 13 = .ok (.dup, 1) := by decide +kernel
theorem dX5_undo_14 : decode cX5_undo 14 = .ok (.ldc_w 293, 3) := by decide +kernel
theorem dX5_undo_17 : decode cX5_undo 17 = .ok (.invokespecial 240, 3) := by decide +kernel
theorem dX5_undo_20 : decode cX5_undo 20 = .ok (.athrow, 1) := by decide +kernel
theorem dX5_undo_21 : decode cX5_undo 21 = .ok (.aload_n 0, 1) := by decide +kernel
theorem dX5_undo_22 : decode cX5_undo 22 = .ok (.getfield 28, 3) := by decide +kernel
theorem dX5_undo_25 : decode cX5_undo 25 = .ok (.aload_n 0, 1) := by decide +kernel
theorem dX5_undo_26 : decode cX5_undo 26 = .ok (.getfield 12, 3) := by decide +kernel
theorem dX5_undo_29 : decode cX5_undo 29 = .ok (.invokevirtual 295, 3) := by decide +kernel
theorem dX5_undo_32 : decode cX5_undo 32 = .ok (.aload_n 0, 1) := by decide +kernel
theorem dX5_undo_33 : decode cX5_undo 33 = .ok (.getfield 28, 3) := by decide +kernel
theorem dX5_undo_36 : decode cX5_undo 36 = .ok (.getfield 274, 3) := by decide +kernel
theorem dX5_undo_39 : decode cX5_undo 39 = .ok (.ireturn, 1) := by decide +kernel
theorem dX5_save_0 : decode cX5_save 0 = .ok (.aload_n 0, 1) := by decide +kernel
theorem dX5_save_1 : decode cX5_save 1 = .ok (.getfield 22, 3) := by decide +kernel
theorem dX5_save_4 : decode cX5_save 4 = .ok (.aload_n 0, 1) := by decide +kernel
theorem dX5_save_5 : decode cX5_save 5 = .ok (.getfield 12, 3) := by decide +kernel
theorem dX5_save_8 : decode cX5_save 8 = .ok (.invokevirtual 57, 3) := by decide +kernel
theorem dX5_save_11 : decode cX5_save 11 = .ok (.aload_n 0, 1) := by decide +kernel
theorem dX5_save_12 : decode cX5_save 12 = .ok (.iconst 1, 1) := by decide +kernel
theorem dX5_save_13 : decode cX5_save 13 = .ok (.putfield 298, 3) := by decide +kernel
theorem dX5_save_16 : decode cX5_save 16 = .ok (.aload_n 0, 1) := by decide +kernel
theorem dX5_save_17 : decode cX5_save 17 = .ok (.getfield 12, 3) := by decide +kernel
theorem dX5_save_20 : decode cX5_save 20 = .ok (.getfield 188, 3) := by decide +kernel
theorem dX5_save_23 : decode cX5_save 23 = .ok (.ireturn, 1) := by decide +kernel
theorem dX5_restore_0 : decode cX5_restore 0 = .ok (.aload_n 0, 1) := by decide +kernel
theorem dX5_restore_1 : decode cX5_restore 1 = .ok (.getfield 298, 3) := by decide +kernel
theorem dX5_restore_4 : decode cX5_restore 4 = .ok (.ifCond .ne 14, 3) := by decide +kernel
theorem dX5_restore_7 : decode cX5_restore 7 = .ok (.new 236, 3) := by decide +kernel
theorem dX5_restore_10 : decode cX5_restore 10 = .ok (.dup, 1) := by decide +kernel
theorem dX5_restore_11 : decode cX5_restore 11 = .ok (.ldc_w 302, 3) := by decide +kernel
theorem dX5_restore_14 : decode cX5_restore 14 = .ok (.invokespecial 240, 3) := by decide +kernel
theorem dX5_restore_17 : decode cX5_restore 17 = .ok (.athrow, 1) := by decide +kernel
theorem dX5_restore_18 : decode cX5_restore 18 = .ok (.aload_n 0, 1) := by decide +kernel
theorem dX5_restore_19 : decode cX5_restore 19 = .ok (.getfield 12, 3) := by decide +kernel
theorem dX5_restore_22 : decode cX5_restore 22 = .ok (.aload_n 0, 1) := by decide +kernel
theorem dX5_restore_23 : decode cX5_restore 23 = .ok (.getfield 22, 3) := by decide +kernel
theorem dX5_restore_26 : decode cX5_restore 26 = .ok (.invokevirtual 57, 3) := by decide +kernel
theorem dX5_restore_29 : decode cX5_restore 29 = .ok (.aload_n 0, 1) := by decide +kernel
theorem dX5_restore_30 : decode cX5_restore 30 = .ok (.getfield 28, 3) := by decide +kernel
theorem dX5_restore_33 : decode cX5_restore 33 = .ok (.iconst 0, 1) := by decide +kernel
theorem dX5_restore_34 : decode cX5_restore 34 = .ok (.putfield 274, 3) := by decide +kernel
theorem dX5_restore_37 : decode cX5_restore 37 = .ok (.aload_n 0, 1) := by decide +kernel
theorem dX5_restore_38 : decode cX5_restore 38 = .ok (.getfield 12, 3) := by decide +kernel
theorem dX5_restore_41 : decode cX5_restore 41 = .ok (.getfield 188, 3) := by decide +kernel
theorem dX5_restore_44 : decode cX5_restore 44 = .ok (.ireturn, 1) := by decide +kernel
theorem dX5_settle_0 : decode cX5_settle 0 = .ok (.iload_n 1, 1) := by decide +kernel
theorem dX5_settle_1 : decode cX5_settle 1 = .ok (.iconst (-1), 1) := by decide +kernel
theorem dX5_settle_2 : decode cX5_settle 2 = .ok (.if_icmp .ne 14, 3) := by decide +kernel
theorem dX5_settle_5 : decode cX5_settle 5 = .ok (.new 99, 3) := by decide +kernel
theorem dX5_settle_8 : decode cX5_settle 8 = .ok (.dup, 1) := by decide +kernel
theorem dX5_settle_9 : decode cX5_settle 9 = .ok (.ldc_w 304, 3) := by decide +kernel
theorem dX5_settle_12 : decode cX5_settle 12 = .ok (.invokespecial 103, 3) := by decide +kernel
theorem dX5_settle_15 : decode cX5_settle 15 = .ok (.athrow, 1) := by decide +kernel
theorem dX5_settle_16 : decode cX5_settle 16 = .ok (.iload_n 1, 1) := by decide +kernel
theorem dX5_settle_17 : decode cX5_settle 17 = .ok (.bipush (-2), 2) := by decide +kernel
theorem dX5_settle_19 : decode cX5_settle 19 = .ok (.if_icmp .ne 14, 3) := by decide +kernel
theorem dX5_settle_22 : decode cX5_settle 22 = .ok (.new 106, 3) := by decide +kernel
theorem dX5_settle_25 : decode cX5_settle 25 = .ok (.dup, 1) := by decide +kernel
theorem dX5_settle_26 : decode cX5_settle 26 = .ok (.ldc_w 306, 3) := by decide +kernel
theorem dX5_settle_29 : decode cX5_settle 29 = .ok (.invokespecial 110, 3) := by decide +kernel
theorem dX5_settle_32 : decode cX5_settle 32 = .ok (.athrow, 1) := by decide +kernel
theorem dX5_settle_33 : decode cX5_settle 33 = .ok (.iload_n 1, 1) := by decide +kernel
theorem dX5_settle_34 : decode cX5_settle 34 = .ok (.bipush (-3), 2) := by decide +kernel
theorem dX5_settle_36 : decode cX5_settle 36 = .ok (.if_icmp .ne 14, 3) := by decide +kernel
theorem dX5_settle_39 : decode cX5_settle 39 = .ok (.new 248, 3) := by decide +kernel
theorem dX5_settle_42 : decode cX5_settle 42 = .ok (.dup, 1) := by decide +kernel
theorem dX5_settle_43 : decode cX5_settle 43 = .ok (.ldc_w 308, 3) := by decide +kernel
theorem dX5_settle_46 : decode cX5_settle 46 = .ok (.invokespecial 252, 3) := by decide +kernel
theorem dX5_settle_49 : decode cX5_settle 49 = .ok (.athrow, 1) := by decide +kernel
theorem dX5_settle_50 : decode cX5_settle 50 = .ok (.aload_n 0, 1) := by decide +kernel
theorem dX5_settle_51 : decode cX5_settle 51 = .ok (.getfield 28, 3) := by decide +kernel
theorem dX5_settle_54 : decode cX5_settle 54 = .ok (.aload_n 0, 1) := by decide +kernel
theorem dX5_settle_55 : decode cX5_settle 55 = .ok (.getfield 16, 3) := by decide +kernel
theorem dX5_settle_58 : decode cX5_settle 58 = .ok (.invokevirtual 255, 3) := by decide +kernel
theorem dX5_settle_61 : decode cX5_settle 61 = .ok (.iload_n 1, 1) := by decide +kernel
theorem dX5_settle_62 : decode cX5_settle 62 = .ok (.ireturn, 1) := by decide +kernel
theorem dX5_refuse_0 : decode cX5_refuse 0 = .ok (.aload_n 0, 1) := by decide +kernel
theorem dX5_refuse_1 : decode cX5_refuse 1 = .ok (.getfield 35, 3) := by decide +kernel
theorem dX5_refuse_4 : decode cX5_refuse 4 = .ok (.iload_n 1, 1) := by decide +kernel
theorem dX5_refuse_5 : decode cX5_refuse 5 = .ok (.iload_n 2, 1) := by decide +kernel
theorem dX5_refuse_6 : decode cX5_refuse 6 = .ok (.invokevirtual 310, 3) := by decide +kernel
theorem dX5_refuse_9 : decode cX5_refuse 9 = .ok (.bipush (-3), 2) := by decide +kernel
theorem dX5_refuse_11 : decode cX5_refuse 11 = .ok (.ireturn, 1) := by decide +kernel
theorem dX5_addHouse_0 : decode cX5_addHouse 0 = .ok (.iload_n 1, 1) := by decide +kernel
theorem dX5_addHouse_1 : decode cX5_addHouse 1 = .ok (.ifCond .lt 9, 3) := by decide +kernel
theorem dX5_addHouse_4 : decode cX5_addHouse 4 = .ok (.iload_n 1, 1) := by decide +kernel
theorem dX5_addHouse_5 : decode cX5_addHouse 5 = .ok (.bipush 99, 2) := by decide +kernel
theorem dX5_addHouse_7 : decode cX5_addHouse 7 = .ok (.if_icmp .le 6, 3) := by decide +kernel
theorem dX5_addHouse_10 : decode cX5_addHouse 10 = .ok (.bipush (-2), 2) := by decide +kernel
theorem dX5_addHouse_12 : decode cX5_addHouse 12 = .ok (.ireturn, 1) := by decide +kernel
theorem dX5_addHouse_13 : decode cX5_addHouse 13 = .ok (.aload_n 0, 1) := by decide +kernel
theorem dX5_addHouse_14 : decode cX5_addHouse 14 = .ok (.getfield 12, 3) := by decide +kernel
theorem dX5_addHouse_17 : decode cX5_addHouse 17 = .ok (.getfield 199, 3) := by decide +kernel
theorem dX5_addHouse_20 : decode cX5_addHouse 20 = .ok (.iconst 4, 1) := by decide +kernel
theorem dX5_addHouse_21 : decode cX5_addHouse 21 = .ok (.if_icmp .lt 10, 3) := by decide +kernel
theorem dX5_addHouse_24 : decode cX5_addHouse 24 = .ok (.aload_n 0, 1) := by decide +kernel
theorem dX5_addHouse_25 : decode cX5_addHouse 25 = .ok (.iconst 1, 1) := by decide +kernel
theorem dX5_addHouse_26 : decode cX5_addHouse 26 = .ok (.iconst 4, 1) := by decide +kernel
theorem dX5_addHouse_27 : decode cX5_addHouse 27 = .ok (.invokevirtual 313, 3) := by decide +kernel
theorem dX5_addHouse_30 : decode cX5_addHouse 30 = .ok (.ireturn, 1) := by decide +kernel
theorem dX5_addHouse_31 : decode cX5_addHouse 31 = .ok (.aload_n 0, 1) := by decide +kernel
theorem dX5_addHouse_32 : decode cX5_addHouse 32 = .ok (.getfield 12, 3) := by decide +kernel
theorem dX5_addHouse_35 : decode cX5_addHouse 35 = .ok (.iload_n 1, 1) := by decide +kernel
theorem dX5_addHouse_36 : decode cX5_addHouse 36 = .ok (.invokevirtual 316, 3) := by decide +kernel
theorem dX5_addHouse_39 : decode cX5_addHouse 39 = .ok (.ireturn, 1) := by decide +kernel
theorem dX5_addSheet_0 : decode cX5_addSheet 0 = .ok (.aload_n 0, 1) := by decide +kernel
theorem dX5_addSheet_1 : decode cX5_addSheet 1 = .ok (.getfield 12, 3) := by decide +kernel
theorem dX5_addSheet_4 : decode cX5_addSheet 4 = .ok (.iload_n 1, 1) := by decide +kernel
theorem dX5_addSheet_5 : decode cX5_addSheet 5 = .ok (.invokevirtual 95, 3) := by decide +kernel
theorem dX5_addSheet_8 : decode cX5_addSheet 8 = .ok (.ifCond .ne 5, 3) := by decide +kernel
theorem dX5_addSheet_11 : decode cX5_addSheet 11 = .ok (.iconst (-1), 1) := by decide +kernel
theorem dX5_addSheet_12 : decode cX5_addSheet 12 = .ok (.ireturn, 1) := by decide +kernel
theorem dX5_addSheet_13 : decode cX5_addSheet 13 = .ok (.iload_n 2, 1) := by decide +kernel
theorem dX5_addSheet_14 : decode cX5_addSheet 14 = .ok (.invokestatic 319, 3) := by decide +kernel
theorem dX5_addSheet_17 : decode cX5_addSheet 17 = .ok (.istore_n 3, 1) := by decide +kernel
theorem dX5_addSheet_18 : decode cX5_addSheet 18 = .ok (.iload_n 3, 1) := by decide +kernel
theorem dX5_addSheet_19 : decode cX5_addSheet 19 = .ok (.ifCond .ne 6, 3) := by decide +kernel
theorem dX5_addSheet_22 : decode cX5_addSheet 22 = .ok (.bipush (-2), 2) := by decide +kernel
theorem dX5_addSheet_24 : decode cX5_addSheet 24 = .ok (.ireturn, 1) := by decide +kernel
theorem dX5_addSheet_25 : decode cX5_addSheet 25 = .ok (.aload_n 0, 1) := by decide +kernel
theorem dX5_addSheet_26 : decode cX5_addSheet 26 = .ok (.getfield 12, 3) := by decide +kernel
theorem dX5_addSheet_29 : decode cX5_addSheet 29 = .ok (.getfield 188, 3) := by decide +kernel
theorem dX5_addSheet_32 : decode cX5_addSheet 32 = .ok (.bipush 8, 2) := by decide +kernel
theorem dX5_addSheet_34 : decode cX5_addSheet 34 = .ok (.if_icmp .lt 11, 3) := by decide +kernel
theorem dX5_addSheet_37 : decode cX5_addSheet 37 = .ok (.aload_n 0, 1) := by decide +kernel
theorem dX5_addSheet_38 : decode cX5_addSheet 38 = .ok (.iconst 1, 1) := by decide +kernel
theorem dX5_addSheet_39 : decode cX5_addSheet 39 = .ok (.bipush 8, 2) := by decide +kernel
theorem dX5_addSheet_41 : decode cX5_addSheet 41 = .ok (.invokevirtual 313, 3) := by decide +kernel
theorem dX5_addSheet_44 : decode cX5_addSheet 44 = .ok (.ireturn, 1) := by decide +kernel
theorem dX5_addSheet_45 : decode cX5_addSheet 45 = .ok (.aload_n 0, 1) := by decide +kernel
theorem dX5_addSheet_46 : decode cX5_addSheet 46 = .ok (.getfield 12, 3) := by decide +kernel
theorem dX5_addSheet_49 : decode cX5_addSheet 49 = .ok (.iload_n 1, 1) := by decide +kernel
theorem dX5_addSheet_50 : decode cX5_addSheet 50 = .ok (.iload_n 2, 1) := by decide +kernel
theorem dX5_addSheet_51 : decode cX5_addSheet 51 = .ok (.iload_n 3, 1) := by decide +kernel
theorem dX5_addSheet_52 : decode cX5_addSheet 52 = .ok (.invokevirtual 322, 3) := by decide +kernel
theorem dX5_addSheet_55 : decode cX5_addSheet 55 = .ok (.ireturn, 1) := by decide +kernel
theorem dX5_takeSheet_0 : decode cX5_takeSheet 0 = .ok (.aload_n 0, 1) := by decide +kernel
theorem dX5_takeSheet_1 : decode cX5_takeSheet 1 = .ok (.getfield 12, 3) := by decide +kernel
theorem dX5_takeSheet_4 : decode cX5_takeSheet 4 = .ok (.iload_n 1, 1) := by decide +kernel
theorem dX5_takeSheet_5 : decode cX5_takeSheet 5 = .ok (.invokevirtual 114, 3) := by decide +kernel
theorem dX5_takeSheet_8 : decode cX5_takeSheet 8 = .ok (.ifCond .ne 5, 3) := by decide +kernel
theorem dX5_takeSheet_11 : decode cX5_takeSheet 11 = .ok (.iconst (-1), 1) := by decide +kernel
theorem dX5_takeSheet_12 : decode cX5_takeSheet 12 = .ok (.ireturn, 1) := by decide +kernel
theorem dX5_takeSheet_13 : decode cX5_takeSheet 13 = .ok (.aload_n 0, 1) := by decide +kernel
theorem dX5_takeSheet_14 : decode cX5_takeSheet 14 = .ok (.getfield 12, 3) := by decide +kernel
theorem dX5_takeSheet_17 : decode cX5_takeSheet 17 = .ok (.iload_n 1, 1) := by decide +kernel
theorem dX5_takeSheet_18 : decode cX5_takeSheet 18 = .ok (.invokevirtual 326, 3) := by decide +kernel
theorem dX5_takeSheet_21 : decode cX5_takeSheet 21 = .ok (.aload_n 0, 1) := by decide +kernel
theorem dX5_takeSheet_22 : decode cX5_takeSheet 22 = .ok (.getfield 12, 3) := by decide +kernel
theorem dX5_takeSheet_25 : decode cX5_takeSheet 25 = .ok (.getfield 188, 3) := by decide +kernel
theorem dX5_takeSheet_28 : decode cX5_takeSheet 28 = .ok (.ireturn, 1) := by decide +kernel
theorem dX5_setLetter_0 : decode cX5_setLetter 0 = .ok (.aload_n 0, 1) := by decide +kernel
theorem dX5_setLetter_1 : decode cX5_setLetter 1 = .ok (.getfield 12, 3) := by decide +kernel
theorem dX5_setLetter_4 : decode cX5_setLetter 4 = .ok (.iload_n 1, 1) := by decide +kernel
theorem dX5_setLetter_5 : decode cX5_setLetter 5 = .ok (.iload_n 2, 1) := by decide +kernel
theorem dX5_setLetter_6 : decode cX5_setLetter 6 = .ok (.invokevirtual 124, 3) := by decide +kernel
theorem dX5_setLetter_9 : decode cX5_setLetter 9 = .ok (.ifCond .ne 5, 3) := by decide +kernel
theorem dX5_setLetter_12 : decode cX5_setLetter 12 = .ok (.iconst (-1), 1) := by decide +kernel
theorem dX5_setLetter_13 : decode cX5_setLetter 13 = .ok (.ireturn, 1) := by decide +kernel
theorem dX5_setLetter_14 : decode cX5_setLetter 14 = .ok (.iload_n 3, 1) := by decide +kernel
theorem dX5_setLetter_15 : decode cX5_setLetter 15 = .ok (.bipush 97, 2) := by decide +kernel
theorem dX5_setLetter_17 : decode cX5_setLetter 17 = .ok (.if_icmp .lt 9, 3) := by decide +kernel
theorem dX5_setLetter_20 : decode cX5_setLetter 20 = .ok (.iload_n 3, 1) := by decide +kernel
theorem dX5_setLetter_21 : decode cX5_setLetter 21 = .ok (.bipush 102, 2) := by decide +kernel
theorem dX5_setLetter_23 : decode cX5_setLetter 23 = .ok (.if_icmp .le 6, 3) := by decide +kernel
theorem dX5_setLetter_26 : decode cX5_setLetter 26 = .ok (.bipush (-2), 2) := by decide +kernel
theorem dX5_setLetter_28 : decode cX5_setLetter 28 = .ok (.ireturn, 1) := by decide +kernel
theorem dX5_setLetter_29 : decode cX5_setLetter 29 = .ok (.iload_n 3, 1) := by decide +kernel
theorem dX5_setLetter_30 : decode cX5_setLetter 30 = .ok (.bipush 97, 2) := by decide +kernel
theorem dX5_setLetter_32 : decode cX5_setLetter 32 = .ok (.isub, 1) := by decide +kernel
theorem dX5_setLetter_33 : decode cX5_setLetter 33 = .ok (.iconst 1, 1) := by decide +kernel
theorem dX5_setLetter_34 : decode cX5_setLetter 34 = .ok (.iadd, 1) := by decide +kernel
theorem dX5_setLetter_35 : decode cX5_setLetter 35 = .ok (.istore 4, 2) := by decide +kernel
theorem dX5_setLetter_37 : decode cX5_setLetter 37 = .ok (.iload 4, 2) := by decide +kernel
theorem dX5_setLetter_39 : decode cX5_setLetter 39 = .ok (.aload_n 0, 1) := by decide +kernel
theorem dX5_setLetter_40 : decode cX5_setLetter 40 = .ok (.getfield 12, 3) := by decide +kernel
theorem dX5_setLetter_43 : decode cX5_setLetter 43 = .ok (.iload_n 1, 1) := by decide +kernel
theorem dX5_setLetter_44 : decode cX5_setLetter 44 = .ok (.iload_n 2, 1) := by decide +kernel
theorem dX5_setLetter_45 : decode cX5_setLetter 45 = .ok (.invokevirtual 133, 3) := by decide +kernel
theorem dX5_setLetter_48 : decode cX5_setLetter 48 = .ok (.if_icmp .ne 10, 3) := by decide +kernel
theorem dX5_setLetter_51 : decode cX5_setLetter 51 = .ok (.aload_n 0, 1) := by decide +kernel
theorem dX5_setLetter_52 : decode cX5_setLetter 52 = .ok (.iconst 2, 1) := by decide +kernel
theorem dX5_setLetter_53 : decode cX5_setLetter 53 = .ok (.iload_n 2, 1) := by decide +kernel
theorem dX5_setLetter_54 : decode cX5_setLetter 54 = .ok (.invokevirtual 313, 3) := by decide +kernel
theorem dX5_setLetter_57 : decode cX5_setLetter 57 = .ok (.ireturn, 1) := by decide +kernel
theorem dX5_setLetter_58 : decode cX5_setLetter 58 = .ok (.iload 4, 2) := by decide +kernel
theorem dX5_setLetter_60 : decode cX5_setLetter 60 = .ok (.aload_n 0, 1) := by decide +kernel
theorem dX5_setLetter_61 : decode cX5_setLetter 61 = .ok (.getfield 12, 3) := by decide +kernel
theorem dX5_setLetter_64 : decode cX5_setLetter 64 = .ok (.iload_n 1, 1) := by decide +kernel
theorem dX5_setLetter_65 : decode cX5_setLetter 65 = .ok (.iload_n 2, 1) := by decide +kernel
theorem dX5_setLetter_66 : decode cX5_setLetter 66 = .ok (.invokevirtual 130, 3) := by decide +kernel
theorem dX5_setLetter_69 : decode cX5_setLetter 69 = .ok (.if_icmp .ne 10, 3) := by decide +kernel
theorem dX5_setLetter_72 : decode cX5_setLetter 72 = .ok (.aload_n 0, 1) := by decide +kernel
theorem dX5_setLetter_73 : decode cX5_setLetter 73 = .ok (.iconst 3, 1) := by decide +kernel
theorem dX5_setLetter_74 : decode cX5_setLetter 74 = .ok (.iload_n 2, 1) := by decide +kernel
theorem dX5_setLetter_75 : decode cX5_setLetter 75 = .ok (.invokevirtual 313, 3) := by decide +kernel
theorem dX5_setLetter_78 : decode cX5_setLetter 78 = .ok (.ireturn, 1) := by decide +kernel
theorem dX5_setLetter_79 : decode cX5_setLetter 79 = .ok (.aload_n 0, 1) := by decide +kernel
theorem dX5_setLetter_80 : decode cX5_setLetter 80 = .ok (.getfield 12, 3) := by decide +kernel
theorem dX5_setLetter_83 : decode cX5_setLetter 83 = .ok (.iload_n 1, 1) := by decide +kernel
theorem dX5_setLetter_84 : decode cX5_setLetter 84 = .ok (.iload_n 2, 1) := by decide +kernel
theorem dX5_setLetter_85 : decode cX5_setLetter 85 = .ok (.iload 4, 2) := by decide +kernel
theorem dX5_setLetter_87 : decode cX5_setLetter 87 = .ok (.invokevirtual 329, 3) := by decide +kernel
theorem dX5_setLetter_90 : decode cX5_setLetter 90 = .ok (.aload_n 0, 1) := by decide +kernel
theorem dX5_setLetter_91 : decode cX5_setLetter 91 = .ok (.getfield 12, 3) := by decide +kernel
theorem dX5_setLetter_94 : decode cX5_setLetter 94 = .ok (.iload_n 1, 1) := by decide +kernel
theorem dX5_setLetter_95 : decode cX5_setLetter 95 = .ok (.iconst 1, 1) := by decide +kernel
theorem dX5_setLetter_96 : decode cX5_setLetter 96 = .ok (.invokevirtual 333, 3) := by decide +kernel
theorem dX5_setLetter_99 : decode cX5_setLetter 99 = .ok (.ireturn, 1) := by decide +kernel
theorem dX5_sellLicence_0 : decode cX5_sellLicence 0 = .ok (.aload_n 0, 1) := by decide +kernel
theorem dX5_sellLicence_1 : decode cX5_sellLicence 1 = .ok (.getfield 12, 3) := by decide +kernel
theorem dX5_sellLicence_4 : decode cX5_sellLicence 4 = .ok (.iload_n 1, 1) := by decide +kernel
theorem dX5_sellLicence_5 : decode cX5_sellLicence 5 = .ok (.iload_n 2, 1) := by decide +kernel
theorem dX5_sellLicence_6 : decode cX5_sellLicence 6 = .ok (.invokevirtual 124, 3) := by decide +kernel
theorem dX5_sellLicence_9 : decode cX5_sellLicence 9 = .ok (.ifCond .ne 5, 3) := by decide +kernel
theorem dX5_sellLicence_12 : decode cX5_sellLicence 12 = .ok (.iconst (-1), 1) := by decide +kernel
theorem dX5_sellLicence_13 : decode cX5_sellLicence 13 = .ok (.ireturn, 1) := by decide +kernel
theorem dX5_sellLicence_14 : decode cX5_sellLicence 14 = .ok (.aload_n 0, 1) := by decide +kernel
theorem dX5_sellLicence_15 : decode cX5_sellLicence 15 = .ok (.getfield 12, 3) := by decide +kernel
theorem dX5_sellLicence_18 : decode cX5_sellLicence 18 = .ok (.iload_n 1, 1) := by decide +kernel
theorem dX5_sellLicence_19 : decode cX5_sellLicence 19 = .ok (.iload_n 2, 1) := by decide +kernel
theorem dX5_sellLicence_20 : decode cX5_sellLicence 20 = .ok (.invokevirtual 140, 3) := by decide +kernel
theorem dX5_sellLicence_23 : decode cX5_sellLicence 23 = .ok (.istore_n 3, 1) := by decide +kernel
theorem dX5_sellLicence_24 : decode cX5_sellLicence 24 = .ok (.aload_n 0, 1) := by decide +kernel
theorem dX5_sellLicence_25 : decode cX5_sellLicence 25 = .ok (.getfield 12, 3) := by decide +kernel
theorem dX5_sellLicence_28 : decode cX5_sellLicence 28 = .ok (.getfield 159, 3) := by decide +kernel
theorem dX5_sellLicence_31 : decode cX5_sellLicence 31 = .ok (.iload_n 1, 1) := by decide +kernel
theorem dX5_sellLicence_32 : decode cX5_sellLicence 32 = .ok (.iaload, 1) := by decide +kernel
theorem dX5_sellLicence_33 : decode cX5_sellLicence 33 = .ok (.istore 4, 2) := by decide +kernel
theorem dX5_sellLicence_35 : decode cX5_sellLicence 35 = .ok (.aload_n 0, 1) := by decide +kernel
theorem dX5_sellLicence_36 : decode cX5_sellLicence 36 = .ok (.getfield 12, 3) := by decide +kernel
theorem dX5_sellLicence_39 : decode cX5_sellLicence 39 = .ok (.iload 4, 2) := by decide +kernel
theorem dX5_sellLicence_41 : decode cX5_sellLicence 41 = .ok (.invokevirtual 336, 3) := by decide +kernel
theorem dX5_sellLicence_44 : decode cX5_sellLicence 44 = .ok (.istore 5, 2) := by decide +kernel
theorem dX5_sellLicence_46 : decode cX5_sellLicence 46 = .ok (.iload_n 3, 1) := by decide +kernel
theorem dX5_sellLicence_47 : decode cX5_sellLicence 47 = .ok (.ifCond .ne 10, 3) := by decide +kernel
theorem dX5_sellLicence_50 : decode cX5_sellLicence 50 = .ok (.aload_n 0, 1) := by decide +kernel
theorem dX5_sellLicence_51 : decode cX5_sellLicence 51 = .ok (.iconst 4, 1) := by decide +kernel
theorem dX5_sellLicence_52 : decode cX5_sellLicence 52 = .ok (.iload_n 2, 1) := by decide +kernel
theorem dX5_sellLicence_53 : decode cX5_sellLicence 53 = .ok (.invokevirtual 313, 3) := by decide +kernel
theorem dX5_sellLicence_56 : decode cX5_sellLicence 56 = .ok (.ireturn, 1) := by decide +kernel
theorem dX5_sellLicence_57 : decode cX5_sellLicence 57 = .ok (.iload_n 3, 1) := by decide +kernel
theorem dX5_sellLicence_58 : decode cX5_sellLicence 58 = .ok (.iconst 2, 1) := by decide +kernel
theorem dX5_sellLicence_59 : decode cX5_sellLicence 59 = .ok (.if_icmp .lt 10, 3) := by decide +kernel
theorem dX5_sellLicence_62 : decode cX5_sellLicence 62 = .ok (.aload_n 0, 1) := by decide +kernel
theorem dX5_sellLicence_63 : decode cX5_sellLicence 63 = .ok (.iconst 5, 1) := by decide +kernel
theorem dX5_sellLicence_64 : decode cX5_sellLicence 64 = .ok (.iload_n 2, 1) := by decide +kernel
theorem dX5_sellLicence_65 : decode cX5_sellLicence 65 = .ok (.invokevirtual 313, 3) := by decide +kernel
theorem dX5_sellLicence_68 : decode cX5_sellLicence 68 = .ok (.ireturn, 1) := by decide +kernel
theorem dX5_sellLicence_69 : decode cX5_sellLicence 69 = .ok (.aload_n 0, 1) := by decide +kernel
theorem dX5_sellLicence_70 : decode cX5_sellLicence 70 = .ok (.getfield 12, 3) := by decide +kernel
theorem dX5_sellLicence_73 : decode cX5_sellLicence 73 = .ok (.iload 4, 2) := by decide +kernel
theorem dX5_sellLicence_75 : decode cX5_sellLicence 75 = .ok (.invokevirtual 226, 3) := by decide +kernel
theorem dX5_sellLicence_78 : decode cX5_sellLicence 78 = .ok (.ifCond .eq 20, 3) := by decide +kernel
theorem dX5_sellLicence_81 : decode cX5_sellLicence 81 = .ok (.aload_n 0, 1) := by decide +kernel
theorem dX5_sellLicence_82 : decode cX5_sellLicence 82 = .ok (.bipush 6, 2) := by decide +kernel
theorem dX5_sellLicence_84 : decode cX5_sellLicence 84 = .ok (.aload_n 0, 1) := by decide +kernel
theorem dX5_sellLicence_85 : decode cX5_sellLicence 85 = .ok (.getfield 12, 3) := by decide +kernel
theorem dX5_sellLicence_88 : decode cX5_sellLicence 88 = .ok (.getfield 173, 3) := by decide +kernel
theorem dX5_sellLicence_91 : decode cX5_sellLicence 91 = .ok (.iload 4, 2) := by decide +kernel
theorem dX5_sellLicence_93 : decode cX5_sellLicence 93 = .ok (.iaload, 1) := by decide +kernel
theorem dX5_sellLicence_94 : decode cX5_sellLicence 94 = .ok (.invokevirtual 313, 3) := by decide +kernel
theorem dX5_sellLicence_97 : decode cX5_sellLicence 97 = .ok (.ireturn, 1) := by decide +kernel
theorem dX5_sellLicence_98 : decode cX5_sellLicence 98 = .ok (.iload 5, 2) := by decide +kernel
theorem dX5_sellLicence_100 : decode cX5_sellLicence 100 = .ok (.aload_n 0, 1) := by decide +kernel
theorem dX5_sellLicence_101 : decode cX5_sellLicence 101 = .ok (.getfield 12, 3) := by decide +kernel
theorem dX5_sellLicence_104 : decode cX5_sellLicence 104 = .ok (.getfield 155, 3) := by decide +kernel
theorem dX5_sellLicence_107 : decode cX5_sellLicence 107 = .ok (.iload 4, 2) := by decide +kernel
theorem dX5_sellLicence_109 : decode cX5_sellLicence 109 = .ok (.iaload, 1) := by decide +kernel
theorem dX5_sellLicence_110 : decode cX5_sellLicence 110 = .ok (.if_icmp .le 20, 3) := by decide +kernel
theorem dX5_sellLicence_113 : decode cX5_sellLicence 113 = .ok (.aload_n 0, 1) := by decide +kernel
theorem dX5_sellLicence_114 : decode cX5_sellLicence 114 = .ok (.bipush 7, 2) := by decide +kernel
theorem dX5_sellLicence_116 : decode cX5_sellLicence 116 = .ok (.aload_n 0, 1) := by decide +kernel
theorem dX5_sellLicence_117 : decode cX5_sellLicence 117 = .ok (.getfield 12, 3) := by decide +kernel
theorem dX5_sellLicence_120 : decode cX5_sellLicence 120 = .ok (.getfield 155, 3) := by decide +kernel
theorem dX5_sellLicence_123 : decode cX5_sellLicence 123 = .ok (.iload 4, 2) := by decide +kernel
theorem dX5_sellLicence_125 : decode cX5_sellLicence 125 = .ok (.iaload, 1) := by decide +kernel
theorem dX5_sellLicence_126 : decode cX5_sellLicence 126 = .ok (.invokevirtual 313, 3) := by decide +kernel
theorem dX5_sellLicence_129 : decode cX5_sellLicence 129 = .ok (.ireturn, 1) := by decide +kernel
theorem dX5_sellLicence_130 : decode cX5_sellLicence 130 = .ok (.aload_n 0, 1) := by decide +kernel
theorem dX5_sellLicence_131 : decode cX5_sellLicence 131 = .ok (.getfield 12, 3) := by decide +kernel
theorem dX5_sellLicence_134 : decode cX5_sellLicence 134 = .ok (.getfield 155, 3) := by decide +kernel
theorem dX5_sellLicence_137 : decode cX5_sellLicence 137 = .ok (.iload 4, 2) := by decide +kernel
theorem dX5_sellLicence_139 : decode cX5_sellLicence 139 = .ok (.dup2, 1) := by decide +kernel
theorem dX5_sellLicence_140 : decode cX5_sellLicence 140 = .ok (.iaload, 1) := by decide +kernel
theorem dX5_sellLicence_141 : decode cX5_sellLicence 141 = .ok (.iload 5, 2) := by decide +kernel
theorem dX5_sellLicence_143 : decode cX5_sellLicence 143 = .ok (.isub, 1) := by decide +kernel
theorem dX5_sellLicence_144 : decode cX5_sellLicence 144 = .ok (.iastore, 1) := by decide +kernel
theorem dX5_sellLicence_145 : decode cX5_sellLicence 145 = .ok (.aload_n 0, 1) := by decide +kernel
theorem dX5_sellLicence_146 : decode cX5_sellLicence 146 = .ok (.getfield 12, 3) := by decide +kernel
theorem dX5_sellLicence_149 : decode cX5_sellLicence 149 = .ok (.dup, 1) := by decide +kernel
theorem dX5_sellLicence_150 : decode cX5_sellLicence 150 = .ok (.getfield 339, 3) := by decide +kernel
theorem dX5_sellLicence_153 : decode cX5_sellLicence 153 = .ok (.iload 5, 2) := by decide +kernel
theorem dX5_sellLicence_155 : decode cX5_sellLicence 155 = .ok (.iadd, 1) := by decide +kernel
theorem dX5_sellLicence_156 : decode cX5_sellLicence 156 = .ok (.putfield 339, 3) := by decide +kernel
theorem dX5_sellLicence_159 : decode cX5_sellLicence 159 = .ok (.aload_n 0, 1) := by decide +kernel
theorem dX5_sellLicence_160 : decode cX5_sellLicence 160 = .ok (.getfield 12, 3) := by decide +kernel
theorem dX5_sellLicence_163 : decode cX5_sellLicence 163 = .ok (.getfield 342, 3) := by decide +kernel
theorem dX5_sellLicence_166 : decode cX5_sellLicence 166 = .ok (.iload_n 1, 1) := by decide +kernel
theorem dX5_sellLicence_167 : decode cX5_sellLicence 167 = .ok (.bipush 8, 2) := by decide +kernel
theorem dX5_sellLicence_169 : decode cX5_sellLicence 169 = .ok (.imul, 1) := by decide +kernel
theorem dX5_sellLicence_170 : decode cX5_sellLicence 170 = .ok (.iload_n 2, 1) := by decide +kernel
theorem dX5_sellLicence_171 : decode cX5_sellLicence 171 = .ok (.iadd, 1) := by decide +kernel
theorem dX5_sellLicence_172 : decode cX5_sellLicence 172 = .ok (.iconst 2, 1) := by decide +kernel
theorem dX5_sellLicence_173 : decode cX5_sellLicence 173 = .ok (.iastore, 1) := by decide +kernel
theorem dX5_sellLicence_174 : decode cX5_sellLicence 174 = .ok (.iload 5, 2) := by decide +kernel
theorem dX5_sellLicence_176 : decode cX5_sellLicence 176 = .ok (.ireturn, 1) := by decide +kernel
theorem dX5_takeFine_0 : decode cX5_takeFine 0 = .ok (.aload_n 0, 1) := by decide +kernel
theorem dX5_takeFine_1 : decode cX5_takeFine 1 = .ok (.getfield 12, 3) := by decide +kernel
theorem dX5_takeFine_4 : decode cX5_takeFine 4 = .ok (.iload_n 1, 1) := by decide +kernel
theorem dX5_takeFine_5 : decode cX5_takeFine 5 = .ok (.iload_n 2, 1) := by decide +kernel
theorem dX5_takeFine_6 : decode cX5_takeFine 6 = .ok (.invokevirtual 124, 3) := by decide +kernel
theorem dX5_takeFine_9 : decode cX5_takeFine 9 = .ok (.ifCond .ne 5, 3) := by decide +kernel
theorem dX5_takeFine_12 : decode cX5_takeFine 12 = .ok (.iconst (-1), 1) := by decide +kernel
theorem dX5_takeFine_13 : decode cX5_takeFine 13 = .ok (.ireturn, 1) := by decide +kernel
theorem dX5_takeFine_14 : decode cX5_takeFine 14 = .ok (.aload_n 0, 1) := by decide +kernel
theorem dX5_takeFine_15 : decode cX5_takeFine 15 = .ok (.getfield 12, 3) := by decide +kernel
theorem dX5_takeFine_18 : decode cX5_takeFine 18 = .ok (.getfield 159, 3) := by decide +kernel
theorem dX5_takeFine_21 : decode cX5_takeFine 21 = .ok (.iload_n 1, 1) := by decide +kernel
theorem dX5_takeFine_22 : decode cX5_takeFine 22 = .ok (.iaload, 1) := by decide +kernel
theorem dX5_takeFine_23 : decode cX5_takeFine 23 = .ok (.istore_n 3, 1) := by decide +kernel
theorem dX5_takeFine_24 : decode cX5_takeFine 24 = .ok (.aload_n 0, 1) := by decide +kernel
theorem dX5_takeFine_25 : decode cX5_takeFine 25 = .ok (.getfield 12, 3) := by decide +kernel
theorem dX5_takeFine_28 : decode cX5_takeFine 28 = .ok (.iload_n 1, 1) := by decide +kernel
theorem dX5_takeFine_29 : decode cX5_takeFine 29 = .ok (.iload_n 2, 1) := by decide +kernel
theorem dX5_takeFine_30 : decode cX5_takeFine 30 = .ok (.invokevirtual 146, 3) := by decide +kernel
theorem dX5_takeFine_33 : decode cX5_takeFine 33 = .ok (.istore 4, 2) := by decide +kernel
theorem dX5_takeFine_35 : decode cX5_takeFine 35 = .ok (.aload_n 0, 1) := by decide +kernel
theorem dX5_takeFine_36 : decode cX5_takeFine 36 = .ok (.getfield 12, 3) := by decide +kernel
theorem dX5_takeFine_39 : decode cX5_takeFine 39 = .ok (.iload_n 1, 1) := by decide +kernel
theorem dX5_takeFine_40 : decode cX5_takeFine 40 = .ok (.iload_n 2, 1) := by decide +kernel
theorem dX5_takeFine_41 : decode cX5_takeFine 41 = .ok (.invokevirtual 140, 3) := by decide +kernel
theorem dX5_takeFine_44 : decode cX5_takeFine 44 = .ok (.ifCond .ne 10, 3) := by decide +kernel
theorem dX5_takeFine_47 : decode cX5_takeFine 47 = .ok (.aload_n 0, 1) := by decide +kernel
theorem dX5_takeFine_48 : decode cX5_takeFine 48 = .ok (.iconst 4, 1) := by decide +kernel
theorem dX5_takeFine_49 : decode cX5_takeFine 49 = .ok (.iload_n 2, 1) := by decide +kernel
theorem dX5_takeFine_50 : decode cX5_takeFine 50 = .ok (.invokevirtual 313, 3) := by decide +kernel
theorem dX5_takeFine_53 : decode cX5_takeFine 53 = .ok (.ireturn, 1) := by decide +kernel
theorem dX5_takeFine_54 : decode cX5_takeFine 54 = .ok (.iload 4, 2) := by decide +kernel
theorem dX5_takeFine_56 : decode cX5_takeFine 56 = .ok (.aload_n 0, 1) := by decide +kernel
theorem dX5_takeFine_57 : decode cX5_takeFine 57 = .ok (.getfield 12, 3) := by decide +kernel
theorem dX5_takeFine_60 : decode cX5_takeFine 60 = .ok (.getfield 155, 3) := by decide +kernel
theorem dX5_takeFine_63 : decode cX5_takeFine 63 = .ok (.iload_n 3, 1) := by decide +kernel
theorem dX5_takeFine_64 : decode cX5_takeFine 64 = .ok (.iaload, 1) := by decide +kernel
theorem dX5_takeFine_65 : decode cX5_takeFine 65 = .ok (.if_icmp .le 19, 3) := by decide +kernel
theorem dX5_takeFine_68 : decode cX5_takeFine 68 = .ok (.aload_n 0, 1) := by decide +kernel
theorem dX5_takeFine_69 : decode cX5_takeFine 69 = .ok (.bipush 7, 2) := by decide +kernel
theorem dX5_takeFine_71 : decode cX5_takeFine 71 = .ok (.aload_n 0, 1) := by decide +kernel
theorem dX5_takeFine_72 : decode cX5_takeFine 72 = .ok (.getfield 12, 3) := by decide +kernel
theorem dX5_takeFine_75 : decode cX5_takeFine 75 = .ok (.getfield 155, 3) := by decide +kernel
theorem dX5_takeFine_78 : decode cX5_takeFine 78 = .ok (.iload_n 3, 1) := by decide +kernel
theorem dX5_takeFine_79 : decode cX5_takeFine 79 = .ok (.iaload, 1) := by decide +kernel
theorem dX5_takeFine_80 : decode cX5_takeFine 80 = .ok (.invokevirtual 313, 3) := by decide +kernel
theorem dX5_takeFine_83 : decode cX5_takeFine 83 = .ok (.ireturn, 1) := by decide +kernel
theorem dX5_takeFine_84 : decode cX5_takeFine 84 = .ok (.aload_n 0, 1) := by decide +kernel
theorem dX5_takeFine_85 : decode cX5_takeFine 85 = .ok (.getfield 12, 3) := by decide +kernel
theorem dX5_takeFine_88 : decode cX5_takeFine 88 = .ok (.getfield 155, 3) := by decide +kernel
theorem dX5_takeFine_91 : decode cX5_takeFine 91 = .ok (.iload_n 3, 1) := by decide +kernel
theorem dX5_takeFine_92 : decode cX5_takeFine 92 = .ok (.dup2, 1) := by decide +kernel
theorem dX5_takeFine_93 : decode cX5_takeFine 93 = .ok (.iaload, 1) := by decide +kernel
theorem dX5_takeFine_94 : decode cX5_takeFine 94 = .ok (.iload 4, 2) := by decide +kernel
theorem dX5_takeFine_96 : decode cX5_takeFine 96 = .ok (.isub, 1) := by decide +kernel
theorem dX5_takeFine_97 : decode cX5_takeFine 97 = .ok (.iastore, 1) := by decide +kernel
theorem dX5_takeFine_98 : decode cX5_takeFine 98 = .ok (.aload_n 0, 1) := by decide +kernel
theorem dX5_takeFine_99 : decode cX5_takeFine 99 = .ok (.getfield 12, 3) := by decide +kernel
theorem dX5_takeFine_102 : decode cX5_takeFine 102 = .ok (.getfield 345, 3) := by decide +kernel
theorem dX5_takeFine_105 : decode cX5_takeFine 105 = .ok (.iload_n 3, 1) := by decide +kernel
theorem dX5_takeFine_106 : decode cX5_takeFine 106 = .ok (.dup2, 1) := by decide +kernel
theorem dX5_takeFine_107 : decode cX5_takeFine 107 = .ok (.iaload, 1) := by decide +kernel
theorem dX5_takeFine_108 : decode cX5_takeFine 108 = .ok (.iload 4, 2) := by decide +kernel
theorem dX5_takeFine_110 : decode cX5_takeFine 110 = .ok (.iadd, 1) := by decide +kernel
theorem dX5_takeFine_111 : decode cX5_takeFine 111 = .ok (.iastore, 1) := by decide +kernel
theorem dX5_takeFine_112 : decode cX5_takeFine 112 = .ok (.aload_n 0, 1) := by decide +kernel
theorem dX5_takeFine_113 : decode cX5_takeFine 113 = .ok (.getfield 12, 3) := by decide +kernel
theorem dX5_takeFine_116 : decode cX5_takeFine 116 = .ok (.iload_n 1, 1) := by decide +kernel
theorem dX5_takeFine_117 : decode cX5_takeFine 117 = .ok (.iload_n 2, 1) := by decide +kernel
theorem dX5_takeFine_118 : decode cX5_takeFine 118 = .ok (.aload_n 0, 1) := by decide +kernel
theorem dX5_takeFine_119 : decode cX5_takeFine 119 = .ok (.getfield 12, 3) := by decide +kernel
theorem dX5_takeFine_122 : decode cX5_takeFine 122 = .ok (.iload_n 1, 1) := by decide +kernel
theorem dX5_takeFine_123 : decode cX5_takeFine 123 = .ok (.iload_n 2, 1) := by decide +kernel
theorem dX5_takeFine_124 : decode cX5_takeFine 124 = .ok (.invokevirtual 130, 3) := by decide +kernel
theorem dX5_takeFine_127 : decode cX5_takeFine 127 = .ok (.invokevirtual 329, 3) := by decide +kernel
theorem dX5_takeFine_130 : decode cX5_takeFine 130 = .ok (.iload 4, 2) := by decide +kernel
theorem dX5_takeFine_132 : decode cX5_takeFine 132 = .ok (.ireturn, 1) := by decide +kernel
theorem dX5_addReader_0 : decode cX5_addReader 0 = .ok (.iload_n 1, 1) := by decide +kernel
theorem dX5_addReader_1 : decode cX5_addReader 1 = .ok (.ifCond .lt 19, 3) := by decide +kernel
theorem dX5_addReader_4 : decode cX5_addReader 4 = .ok (.iload_n 1, 1) := by decide +kernel
theorem dX5_addReader_5 : decode cX5_addReader 5 = .ok (.iconst 1, 1) := by decide +kernel
theorem dX5_addReader_6 : decode cX5_addReader 6 = .ok (.if_icmp .gt 14, 3) := by decide +kernel
theorem dX5_addReader_9 : decode cX5_addReader 9 = .ok (.iload_n 2, 1) := by decide +kernel
theorem dX5_addReader_10 : decode cX5_addReader 10 = .ok (.iconst 1, 1) := by decide +kernel
theorem dX5_addReader_11 : decode cX5_addReader 11 = .ok (.if_icmp .lt 9, 3) := by decide +kernel
theorem dX5_addReader_14 : decode cX5_addReader 14 = .ok (.iload_n 2, 1) := by decide +kernel
theorem dX5_addReader_15 : decode cX5_addReader 15 = .ok (.bipush 6, 2) := by decide +kernel
theorem dX5_addReader_17 : decode cX5_addReader 17 = .ok (.if_icmp .le 6, 3) := by decide +kernel
theorem dX5_addReader_20 : decode cX5_addReader 20 = .ok (.bipush (-2), 2) := by decide +kernel
theorem dX5_addReader_22 : decode cX5_addReader 22 = .ok (.ireturn, 1) := by decide +kernel
theorem dX5_addReader_23 : decode cX5_addReader 23 = .ok (.aload_n 0, 1) := by decide +kernel
theorem dX5_addReader_24 : decode cX5_addReader 24 = .ok (.getfield 12, 3) := by decide +kernel
theorem dX5_addReader_27 : decode cX5_addReader 27 = .ok (.getfield 348, 3) := by decide +kernel
theorem dX5_addReader_30 : decode cX5_addReader 30 = .ok (.iconst 5, 1) := by decide +kernel
theorem dX5_addReader_31 : decode cX5_addReader 31 = .ok (.if_icmp .lt 10, 3) := by decide +kernel
theorem dX5_addReader_34 : decode cX5_addReader 34 = .ok (.aload_n 0, 1) := by decide +kernel
theorem dX5_addReader_35 : decode cX5_addReader 35 = .ok (.iconst 1, 1) := by decide +kernel
theorem dX5_addReader_36 : decode cX5_addReader 36 = .ok (.iconst 5, 1) := by decide +kernel
theorem dX5_addReader_37 : decode cX5_addReader 37 = .ok (.invokevirtual 313, 3) := by decide +kernel
theorem dX5_addReader_40 : decode cX5_addReader 40 = .ok (.ireturn, 1) := by decide +kernel
theorem dX5_addReader_41 : decode cX5_addReader 41 = .ok (.aload_n 0, 1) := by decide +kernel
theorem dX5_addReader_42 : decode cX5_addReader 42 = .ok (.getfield 12, 3) := by decide +kernel
theorem dX5_addReader_45 : decode cX5_addReader 45 = .ok (.iload_n 1, 1) := by decide +kernel
theorem dX5_addReader_46 : decode cX5_addReader 46 = .ok (.iload_n 2, 1) := by decide +kernel
theorem dX5_addReader_47 : decode cX5_addReader 47 = .ok (.invokevirtual 351, 3) := by decide +kernel
theorem dX5_addReader_50 : decode cX5_addReader 50 = .ok (.ireturn, 1) := by decide +kernel
theorem dX5_printEdition_0 : decode cX5_printEdition 0 = .ok (.aload_n 0, 1) := by decide +kernel
theorem dX5_printEdition_1 : decode cX5_printEdition 1 = .ok (.getfield 12, 3) := by decide +kernel
theorem dX5_printEdition_4 : decode cX5_printEdition 4 = .ok (.iconst 2, 1) := by decide +kernel
theorem dX5_printEdition_5 : decode cX5_printEdition 5 = .ok (.invokevirtual 290, 3) := by decide +kernel
theorem dX5_printEdition_8 : decode cX5_printEdition 8 = .ok (.aload_n 0, 1) := by decide +kernel
theorem dX5_printEdition_9 : decode cX5_printEdition 9 = .ok (.getfield 12, 3) := by decide +kernel
theorem dX5_printEdition_12 : decode cX5_printEdition 12 = .ok (.iconst 3, 1) := by decide +kernel
theorem dX5_printEdition_13 : decode cX5_printEdition 13 = .ok (.invokevirtual 290, 3) := by decide +kernel
theorem dX5_printEdition_16 : decode cX5_printEdition 16 = .ok (.if_icmp .ne 17, 3) := by decide +kernel
theorem dX5_printEdition_19 : decode cX5_printEdition 19 = .ok (.aload_n 0, 1) := by decide +kernel
theorem dX5_printEdition_20 : decode cX5_printEdition 20 = .ok (.bipush 8, 2) := by decide +kernel
theorem dX5_printEdition_22 : decode cX5_printEdition 22 = .ok (.aload_n 0, 1) := by decide +kernel
theorem dX5_printEdition_23 : decode cX5_printEdition 23 = .ok (.getfield 12, 3) := by decide +kernel
theorem dX5_printEdition_26 : decode cX5_printEdition 26 = .ok (.getfield 354, 3) := by decide +kernel
theorem dX5_printEdition_29 : decode cX5_printEdition 29 = .ok (.invokevirtual 313, 3) := by decide +kernel
theorem dX5_printEdition_32 : decode cX5_printEdition 32 = .ok (.ireturn, 1) := by decide +kernel
theorem dX5_printEdition_33 : decode cX5_printEdition 33 = .ok (.iconst 0, 1) := by decide +kernel
theorem dX5_printEdition_34 : decode cX5_printEdition 34 = .ok (.istore_n 1, 1) := by decide +kernel
theorem dX5_printEdition_35 : decode cX5_printEdition 35 = .ok (.iconst 0, 1) := by decide +kernel
theorem dX5_printEdition_36 : decode cX5_printEdition 36 = .ok (.istore_n 2, 1) := by decide +kernel
theorem dX5_printEdition_37 : decode cX5_printEdition 37 = .ok (.iload_n 2, 1) := by decide +kernel
theorem dX5_printEdition_38 : decode cX5_printEdition 38 = .ok (.aload_n 0, 1) := by decide +kernel
theorem dX5_printEdition_39 : decode cX5_printEdition 39 = .ok (.getfield 12, 3) := by decide +kernel
theorem dX5_printEdition_42 : decode cX5_printEdition 42 = .ok (.getfield 188, 3) := by decide +kernel
theorem dX5_printEdition_45 : decode cX5_printEdition 45 = .ok (.if_icmp .ge 55, 3) := by decide +kernel
theorem dX5_printEdition_48 : decode cX5_printEdition 48 = .ok (.iconst 0, 1) := by decide +kernel
theorem dX5_printEdition_49 : decode cX5_printEdition 49 = .ok (.istore_n 3, 1) := by decide +kernel
theorem dX5_printEdition_50 : decode cX5_printEdition 50 = .ok (.iload_n 3, 1) := by decide +kernel
theorem dX5_printEdition_51 : decode cX5_printEdition 51 = .ok (.aload_n 0, 1) := by decide +kernel
theorem dX5_printEdition_52 : decode cX5_printEdition 52 = .ok (.getfield 12, 3) := by decide +kernel
theorem dX5_printEdition_55 : decode cX5_printEdition 55 = .ok (.getfield 219, 3) := by decide +kernel
theorem dX5_printEdition_58 : decode cX5_printEdition 58 = .ok (.iload_n 2, 1) := by decide +kernel
theorem dX5_printEdition_59 : decode cX5_printEdition 59 = .ok (.iaload, 1) := by decide +kernel
theorem dX5_printEdition_60 : decode cX5_printEdition 60 = .ok (.if_icmp .ge 34, 3) := by decide +kernel
theorem dX5_printEdition_63 : decode cX5_printEdition 63 = .ok (.aload_n 0, 1) := by decide +kernel
theorem dX5_printEdition_64 : decode cX5_printEdition 64 = .ok (.getfield 12, 3) := by decide +kernel
theorem dX5_printEdition_67 : decode cX5_printEdition 67 = .ok (.iload_n 2, 1) := by decide +kernel
theorem dX5_printEdition_68 : decode cX5_printEdition 68 = .ok (.iload_n 3, 1) := by decide +kernel
theorem dX5_printEdition_69 : decode cX5_printEdition 69 = .ok (.invokevirtual 140, 3) := by decide +kernel
theorem dX5_printEdition_72 : decode cX5_printEdition 72 = .ok (.iconst 2, 1) := by decide +kernel
theorem dX5_printEdition_73 : decode cX5_printEdition 73 = .ok (.if_icmp .ne 15, 3) := by decide +kernel
theorem dX5_printEdition_76 : decode cX5_printEdition 76 = .ok (.iload_n 1, 1) := by decide +kernel
theorem dX5_printEdition_77 : decode cX5_printEdition 77 = .ok (.aload_n 0, 1) := by decide +kernel
theorem dX5_printEdition_78 : decode cX5_printEdition 78 = .ok (.getfield 12, 3) := by decide +kernel
theorem dX5_printEdition_81 : decode cX5_printEdition 81 = .ok (.iload_n 2, 1) := by decide +kernel
theorem dX5_printEdition_82 : decode cX5_printEdition 82 = .ok (.iload_n 3, 1) := by decide +kernel
theorem dX5_printEdition_83 : decode cX5_printEdition 83 = .ok (.invokevirtual 357, 3) := by decide +kernel
theorem dX5_printEdition_86 : decode cX5_printEdition 86 = .ok (.iadd, 1) := by decide +kernel
theorem dX5_printEdition_87 : decode cX5_printEdition 87 = .ok (.istore_n 1, 1) := by decide +kernel
theorem dX5_printEdition_88 : decode cX5_printEdition 88 = .ok (.iinc 3 1, 3) := by decide +kernel
theorem dX5_printEdition_91 : decode cX5_printEdition 91 = .ok (.goto (-41), 3) := by decide +kernel
theorem dX5_printEdition_94 : decode cX5_printEdition 94 = .ok (.iinc 2 1, 3) := by decide +kernel
theorem dX5_printEdition_97 : decode cX5_printEdition 97 = .ok (.goto (-60), 3) := by decide +kernel
theorem dX5_printEdition_100 : decode cX5_printEdition 100 = .ok (.aload_n 0, 1) := by decide +kernel
theorem dX5_printEdition_101 : decode cX5_printEdition 101 = .ok (.getfield 12, 3) := by decide +kernel
theorem dX5_printEdition_104 : decode cX5_printEdition 104 = .ok (.dup, 1) := by decide +kernel
theorem dX5_printEdition_105 : decode cX5_printEdition 105 = .ok (.getfield 354, 3) := by decide +kernel
theorem dX5_printEdition_108 : decode cX5_printEdition 108 = .ok (.iconst 1, 1) := by decide +kernel
theorem dX5_printEdition_109 : decode cX5_printEdition 109 = .ok (.iadd, 1) := by decide +kernel
theorem dX5_printEdition_110 : decode cX5_printEdition 110 = .ok (.putfield 354, 3) := by decide +kernel
theorem dX5_printEdition_113 : decode cX5_printEdition 113 = .ok (.aload_n 0, 1) := by decide +kernel
theorem dX5_printEdition_114 : decode cX5_printEdition 114 = .ok (.getfield 12, 3) := by decide +kernel
theorem dX5_printEdition_117 : decode cX5_printEdition 117 = .ok (.dup, 1) := by decide +kernel
theorem dX5_printEdition_118 : decode cX5_printEdition 118 = .ok (.getfield 360, 3) := by decide +kernel
theorem dX5_printEdition_121 : decode cX5_printEdition 121 = .ok (.iload_n 1, 1) := by decide +kernel
theorem dX5_printEdition_122 : decode cX5_printEdition 122 = .ok (.iadd, 1) := by decide +kernel
theorem dX5_printEdition_123 : decode cX5_printEdition 123 = .ok (.putfield 360, 3) := by decide +kernel
theorem dX5_printEdition_126 : decode cX5_printEdition 126 = .ok (.iload_n 1, 1) := by decide +kernel
theorem dX5_printEdition_127 : decode cX5_printEdition 127 = .ok (.ireturn, 1) := by decide +kernel
theorem dX5_carryOutAll_0 : decode cX5_carryOutAll 0 = .ok (.iconst 0, 1) := by decide +kernel
theorem dX5_carryOutAll_1 : decode cX5_carryOutAll 1 = .ok (.istore_n 1, 1) := by decide +kernel
theorem dX5_carryOutAll_2 : decode cX5_carryOutAll 2 = .ok (.aload_n 0, 1) := by decide +kernel
theorem dX5_carryOutAll_3 : decode cX5_carryOutAll 3 = .ok (.getfield 42, 3) := by decide +kernel
theorem dX5_carryOutAll_6 : decode cX5_carryOutAll 6 = .ok (.iconst 0, 1) := by decide +kernel
theorem dX5_carryOutAll_7 : decode cX5_carryOutAll 7 = .ok (.putfield 363, 3) := by decide +kernel
theorem dX5_carryOutAll_10 : decode cX5_carryOutAll 10 = .ok (.iconst 0, 1) := by decide +kernel
theorem dX5_carryOutAll_11 : decode cX5_carryOutAll 11 = .ok (.istore_n 2, 1) := by decide +kernel
theorem dX5_carryOutAll_12 : decode cX5_carryOutAll 12 = .ok (.iload_n 2, 1) := by decide +kernel
theorem dX5_carryOutAll_13 : decode cX5_carryOutAll 13 = .ok (.bipush 60, 2) := by decide +kernel
theorem dX5_carryOutAll_15 : decode cX5_carryOutAll 15 = .ok (.if_icmp .ge 66, 3) := by decide +kernel
theorem dX5_carryOutAll_18 : decode cX5_carryOutAll 18 = .ok (.aload_n 0, 1) := by decide +kernel
theorem dX5_carryOutAll_19 : decode cX5_carryOutAll 19 = .ok (.getfield 42, 3) := by decide +kernel
theorem dX5_carryOutAll_22 : decode cX5_carryOutAll 22 = .ok (.getfield 363, 3) := by decide +kernel
theorem dX5_carryOutAll_25 : decode cX5_carryOutAll 25 = .ok (.aload_n 0, 1) := by decide +kernel
theorem dX5_carryOutAll_26 : decode cX5_carryOutAll 26 = .ok (.getfield 42, 3) := by decide +kernel
theorem dX5_carryOutAll_29 : decode cX5_carryOutAll 29 = .ok (.getfield 235, 3) := by decide +kernel
theorem dX5_carryOutAll_32 : decode cX5_carryOutAll 32 = .ok (.if_icmp .ge 49, 3) := by decide +kernel
theorem dX5_carryOutAll_35 : decode cX5_carryOutAll 35 = .ok (.aload_n 0, 1) := by decide +kernel
theorem dX5_carryOutAll_36 : decode cX5_carryOutAll 36 = .ok (.getfield 42, 3) := by decide +kernel
theorem dX5_carryOutAll_39 : decode cX5_carryOutAll 39 = .ok (.invokevirtual 366, 3) := by decide +kernel
theorem dX5_carryOutAll_42 : decode cX5_carryOutAll 42 = .ok (.ifCond .eq 39, 3) := by decide +kernel
theorem dX5_carryOutAll_45 : decode cX5_carryOutAll 45 = .ok (.aload_n 0, 1) := by decide +kernel
theorem dX5_carryOutAll_46 : decode cX5_carryOutAll 46 = .ok (.invokevirtual 370, 3) := by decide +kernel
theorem dX5_carryOutAll_49 : decode cX5_carryOutAll 49 = .ok (.istore_n 3, 1) := by decide +kernel
theorem dX5_carryOutAll_50 : decode cX5_carryOutAll 50 = .ok (.iload_n 3, 1) := by decide +kernel
theorem dX5_carryOutAll_51 : decode cX5_carryOutAll 51 = .ok (.bipush (-3), 2) := by decide +kernel
theorem dX5_carryOutAll_53 : decode cX5_carryOutAll 53 = .ok (.if_icmp .ne 13, 3) := by decide +kernel
theorem dX5_carryOutAll_56 : decode cX5_carryOutAll 56 = .ok (.aload_n 0, 1) := by decide +kernel
theorem dX5_carryOutAll_57 : decode cX5_carryOutAll 57 = .ok (.getfield 35, 3) := by decide +kernel
theorem dX5_carryOutAll_60 : decode cX5_carryOutAll 60 = .ok (.bipush 9, 2) := by decide +kernel
theorem dX5_carryOutAll_62 : decode cX5_carryOutAll 62 = .ok (.iload_n 1, 1) := by decide +kernel
theorem dX5_carryOutAll_63 : decode cX5_carryOutAll 63 = .ok (.invokevirtual 373, 3) := by decide +kernel
theorem dX5_carryOutAll_66 : decode cX5_carryOutAll 66 = .ok (.iload_n 3, 1) := by decide +kernel
theorem dX5_carryOutAll_67 : decode cX5_carryOutAll 67 = .ok (.ifCond .ge 5, 3) := by decide +kernel
theorem dX5_carryOutAll_70 : decode cX5_carryOutAll 70 = .ok (.iload_n 3, 1) := by decide +kernel
theorem dX5_carryOutAll_71 : decode cX5_carryOutAll 71 = .ok (.ireturn, 1) := by decide +kernel
theorem dX5_carryOutAll_72 : decode cX5_carryOutAll 72 = .ok (.iinc 1 1, 3) := by decide +kernel
theorem dX5_carryOutAll_75 : decode cX5_carryOutAll 75 = .ok (.iinc 2 1, 3) := by decide +kernel
theorem dX5_carryOutAll_78 : decode cX5_carryOutAll 78 = .ok (.goto (-66), 3) := by decide +kernel
theorem dX5_carryOutAll_81 : decode cX5_carryOutAll 81 = .ok (.iload_n 1, 1) := by decide +kernel
theorem dX5_carryOutAll_82 : decode cX5_carryOutAll 82 = .ok (.ireturn, 1) := by decide +kernel
theorem dX5_carryOutOrder_0 : decode cX5_carryOutOrder 0 = .ok (.aload_n 0, 1) := by decide +kernel
theorem dX5_carryOutOrder_1 : decode cX5_carryOutOrder 1 = .ok (.getfield 42, 3) := by decide +kernel
theorem dX5_carryOutOrder_4 : decode cX5_carryOutOrder 4 = .ok (.getfield 376, 3) := by decide +kernel
theorem dX5_carryOutOrder_7 : decode cX5_carryOutOrder 7 = .ok (.tableswitch 232 99 120 #[177, 232, 227, 232, 232, 101, 232, 232, 232, 158, 132, 232, 232, 232, 232, 196, 113, 232, 232, 232, 232, 215], 101) := by decide +kernel
theorem dX5_carryOutOrder_108 : decode cX5_carryOutOrder 108 = .ok (.aload_n 0, 1) := by decide +kernel
theorem dX5_carryOutOrder_109 : decode cX5_carryOutOrder 109 = .ok (.aload_n 0, 1) := by decide +kernel
theorem dX5_carryOutOrder_110 : decode cX5_carryOutOrder 110 = .ok (.getfield 42, 3) := by decide +kernel
theorem dX5_carryOutOrder_113 : decode cX5_carryOutOrder 113 = .ok (.getfield 380, 3) := by decide +kernel
theorem dX5_carryOutOrder_116 : decode cX5_carryOutOrder 116 = .ok (.invokevirtual 61, 3) := by decide +kernel
theorem dX5_carryOutOrder_119 : decode cX5_carryOutOrder 119 = .ok (.ireturn, 1) := by decide +kernel
theorem dX5_carryOutOrder_120 : decode cX5_carryOutOrder 120 = .ok (.aload_n 0, 1) := by decide +kernel
theorem dX5_carryOutOrder_121 : decode cX5_carryOutOrder 121 = .ok (.aload_n 0, 1) := by decide +kernel
theorem dX5_carryOutOrder_122 : decode cX5_carryOutOrder 122 = .ok (.getfield 42, 3) := by decide +kernel
theorem dX5_carryOutOrder_125 : decode cX5_carryOutOrder 125 = .ok (.getfield 380, 3) := by decide +kernel
theorem dX5_carryOutOrder_128 : decode cX5_carryOutOrder 128 = .ok (.aload_n 0, 1) := by decide +kernel
theorem dX5_carryOutOrder_129 : decode cX5_carryOutOrder 129 = .ok (.getfield 42, 3) := by decide +kernel
theorem dX5_carryOutOrder_132 : decode cX5_carryOutOrder 132 = .ok (.getfield 383, 3) := by decide +kernel
theorem dX5_carryOutOrder_135 : decode cX5_carryOutOrder 135 = .ok (.invokevirtual 68, 3) := by decide +kernel
theorem dX5_carryOutOrder_138 : decode cX5_carryOutOrder 138 = .ok (.ireturn, 1) := by decide +kernel
theorem dX5_carryOutOrder_139 : decode cX5_carryOutOrder 139 = .ok (.aload_n 0, 1) := by decide +kernel
theorem dX5_carryOutOrder_140 : decode cX5_carryOutOrder 140 = .ok (.aload_n 0, 1) := by decide +kernel
theorem dX5_carryOutOrder_141 : decode cX5_carryOutOrder 141 = .ok (.getfield 42, 3) := by decide +kernel
theorem dX5_carryOutOrder_144 : decode cX5_carryOutOrder 144 = .ok (.getfield 380, 3) := by decide +kernel
theorem dX5_carryOutOrder_147 : decode cX5_carryOutOrder 147 = .ok (.aload_n 0, 1) := by decide +kernel
theorem dX5_carryOutOrder_148 : decode cX5_carryOutOrder 148 = .ok (.getfield 42, 3) := by decide +kernel
theorem dX5_carryOutOrder_151 : decode cX5_carryOutOrder 151 = .ok (.getfield 383, 3) := by decide +kernel
theorem dX5_carryOutOrder_154 : decode cX5_carryOutOrder 154 = .ok (.aload_n 0, 1) := by decide +kernel
theorem dX5_carryOutOrder_155 : decode cX5_carryOutOrder 155 = .ok (.getfield 42, 3) := by decide +kernel
theorem dX5_carryOutOrder_158 : decode cX5_carryOutOrder 158 = .ok (.getfield 386, 3) := by decide +kernel
theorem dX5_carryOutOrder_161 : decode cX5_carryOutOrder 161 = .ok (.invokevirtual 75, 3) := by decide +kernel
theorem dX5_carryOutOrder_164 : decode cX5_carryOutOrder 164 = .ok (.ireturn, 1) := by decide +kernel
theorem dX5_carryOutOrder_165 : decode cX5_carryOutOrder 165 = .ok (.aload_n 0, 1) := by decide +kernel
theorem dX5_carryOutOrder_166 : decode cX5_carryOutOrder 166 = .ok (.aload_n 0, 1) := by decide +kernel
theorem dX5_carryOutOrder_167 : decode cX5_carryOutOrder 167 = .ok (.getfield 42, 3) := by decide +kernel
theorem dX5_carryOutOrder_170 : decode cX5_carryOutOrder 170 = .ok (.getfield 380, 3) := by decide +kernel
theorem dX5_carryOutOrder_173 : decode cX5_carryOutOrder 173 = .ok (.aload_n 0, 1) := by decide +kernel
theorem dX5_carryOutOrder_174 : decode cX5_carryOutOrder 174 = .ok (.getfield 42, 3) := by decide +kernel
theorem dX5_carryOutOrder_177 : decode cX5_carryOutOrder 177 = .ok (.getfield 383, 3) := by decide +kernel
theorem dX5_carryOutOrder_180 : decode cX5_carryOutOrder 180 = .ok (.invokevirtual 79, 3) := by decide +kernel
theorem dX5_carryOutOrder_183 : decode cX5_carryOutOrder 183 = .ok (.ireturn, 1) := by decide +kernel
theorem dX5_carryOutOrder_184 : decode cX5_carryOutOrder 184 = .ok (.aload_n 0, 1) := by decide +kernel
theorem dX5_carryOutOrder_185 : decode cX5_carryOutOrder 185 = .ok (.aload_n 0, 1) := by decide +kernel
theorem dX5_carryOutOrder_186 : decode cX5_carryOutOrder 186 = .ok (.getfield 42, 3) := by decide +kernel
theorem dX5_carryOutOrder_189 : decode cX5_carryOutOrder 189 = .ok (.getfield 380, 3) := by decide +kernel
theorem dX5_carryOutOrder_192 : decode cX5_carryOutOrder 192 = .ok (.aload_n 0, 1) := by decide +kernel
theorem dX5_carryOutOrder_193 : decode cX5_carryOutOrder 193 = .ok (.getfield 42, 3) := by decide +kernel
theorem dX5_carryOutOrder_196 : decode cX5_carryOutOrder 196 = .ok (.getfield 383, 3) := by decide +kernel
theorem dX5_carryOutOrder_199 : decode cX5_carryOutOrder 199 = .ok (.invokevirtual 82, 3) := by decide +kernel
theorem dX5_carryOutOrder_202 : decode cX5_carryOutOrder 202 = .ok (.ireturn, 1) := by decide +kernel
theorem dX5_carryOutOrder_203 : decode cX5_carryOutOrder 203 = .ok (.aload_n 0, 1) := by decide +kernel
theorem dX5_carryOutOrder_204 : decode cX5_carryOutOrder 204 = .ok (.aload_n 0, 1) := by decide +kernel
theorem dX5_carryOutOrder_205 : decode cX5_carryOutOrder 205 = .ok (.getfield 42, 3) := by decide +kernel
theorem dX5_carryOutOrder_208 : decode cX5_carryOutOrder 208 = .ok (.getfield 380, 3) := by decide +kernel
theorem dX5_carryOutOrder_211 : decode cX5_carryOutOrder 211 = .ok (.aload_n 0, 1) := by decide +kernel
theorem dX5_carryOutOrder_212 : decode cX5_carryOutOrder 212 = .ok (.getfield 42, 3) := by decide +kernel
theorem dX5_carryOutOrder_215 : decode cX5_carryOutOrder 215 = .ok (.getfield 383, 3) := by decide +kernel
theorem dX5_carryOutOrder_218 : decode cX5_carryOutOrder 218 = .ok (.invokevirtual 85, 3) := by decide +kernel
theorem dX5_carryOutOrder_221 : decode cX5_carryOutOrder 221 = .ok (.ireturn, 1) := by decide +kernel
theorem dX5_carryOutOrder_222 : decode cX5_carryOutOrder 222 = .ok (.aload_n 0, 1) := by decide +kernel
theorem dX5_carryOutOrder_223 : decode cX5_carryOutOrder 223 = .ok (.aload_n 0, 1) := by decide +kernel
theorem dX5_carryOutOrder_224 : decode cX5_carryOutOrder 224 = .ok (.getfield 42, 3) := by decide +kernel
theorem dX5_carryOutOrder_227 : decode cX5_carryOutOrder 227 = .ok (.getfield 380, 3) := by decide +kernel
theorem dX5_carryOutOrder_230 : decode cX5_carryOutOrder 230 = .ok (.invokevirtual 72, 3) := by decide +kernel
theorem dX5_carryOutOrder_233 : decode cX5_carryOutOrder 233 = .ok (.ireturn, 1) := by decide +kernel
theorem dX5_carryOutOrder_234 : decode cX5_carryOutOrder 234 = .ok (.aload_n 0, 1) := by decide +kernel
theorem dX5_carryOutOrder_235 : decode cX5_carryOutOrder 235 = .ok (.invokevirtual 88, 3) := by decide +kernel
theorem dX5_carryOutOrder_238 : decode cX5_carryOutOrder 238 = .ok (.ireturn, 1) := by decide +kernel
theorem dX5_carryOutOrder_239 : decode cX5_carryOutOrder 239 = .ok (.aload_n 0, 1) := by decide +kernel
theorem dX5_carryOutOrder_240 : decode cX5_carryOutOrder 240 = .ok (.getfield 12, 3) := by decide +kernel
theorem dX5_carryOutOrder_243 : decode cX5_carryOutOrder 243 = .ok (.invokevirtual 92, 3) := by decide +kernel
theorem dX5_carryOutOrder_246 : decode cX5_carryOutOrder 246 = .ok (.ireturn, 1) := by decide +kernel
theorem dX5_finesInThought_0 : decode cX5_finesInThought 0 = .ok (.aload_n 0, 1) := by decide +kernel
theorem dX5_finesInThought_1 : decode cX5_finesInThought 1 = .ok (.getfield 19, 3) := by decide +kernel
theorem dX5_finesInThought_4 : decode cX5_finesInThought 4 = .ok (.aload_n 0, 1) := by decide +kernel
theorem dX5_finesInThought_5 : decode cX5_finesInThought 5 = .ok (.getfield 12, 3) := by decide +kernel
theorem dX5_finesInThought_8 : decode cX5_finesInThought 8 = .ok (.invokevirtual 57, 3) := by decide +kernel
theorem dX5_finesInThought_11 : decode cX5_finesInThought 11 = .ok (.iconst 0, 1) := by decide +kernel
theorem dX5_finesInThought_12 : decode cX5_finesInThought 12 = .ok (.istore_n 2, 1) := by decide +kernel
theorem dX5_finesInThought_13 : decode cX5_finesInThought 13 = .ok (.iconst 0, 1) := by decide +kernel
theorem dX5_finesInThought_14 : decode cX5_finesInThought 14 = .ok (.istore_n 3, 1) := by decide +kernel
theorem dX5_finesInThought_15 : decode cX5_finesInThought 15 = .ok (.iload_n 3, 1) := by decide +kernel
theorem dX5_finesInThought_16 : decode cX5_finesInThought 16 = .ok (.aload_n 0, 1) := by decide +kernel
theorem dX5_finesInThought_17 : decode cX5_finesInThought 17 = .ok (.getfield 19, 3) := by decide +kernel
theorem dX5_finesInThought_20 : decode cX5_finesInThought 20 = .ok (.getfield 219, 3) := by decide +kernel
theorem dX5_finesInThought_23 : decode cX5_finesInThought 23 = .ok (.iload_n 1, 1) := by decide +kernel
theorem dX5_finesInThought_24 : decode cX5_finesInThought 24 = .ok (.iaload, 1) := by decide +kernel
theorem dX5_finesInThought_25 : decode cX5_finesInThought 25 = .ok (.if_icmp .ge 39, 3) := by decide +kernel
theorem dX5_finesInThought_28 : decode cX5_finesInThought 28 = .ok (.iload_n 2, 1) := by decide +kernel
theorem dX5_finesInThought_29 : decode cX5_finesInThought 29 = .ok (.aload_n 0, 1) := by decide +kernel
theorem dX5_finesInThought_30 : decode cX5_finesInThought 30 = .ok (.getfield 19, 3) := by decide +kernel
theorem dX5_finesInThought_33 : decode cX5_finesInThought 33 = .ok (.iload_n 1, 1) := by decide +kernel
theorem dX5_finesInThought_34 : decode cX5_finesInThought 34 = .ok (.iload_n 3, 1) := by decide +kernel
theorem dX5_finesInThought_35 : decode cX5_finesInThought 35 = .ok (.invokevirtual 146, 3) := by decide +kernel
theorem dX5_finesInThought_38 : decode cX5_finesInThought 38 = .ok (.iadd, 1) := by decide +kernel
theorem dX5_finesInThought_39 : decode cX5_finesInThought 39 = .ok (.istore_n 2, 1) := by decide +kernel
theorem dX5_finesInThought_40 : decode cX5_finesInThought 40 = .ok (.aload_n 0, 1) := by decide +kernel
theorem dX5_finesInThought_41 : decode cX5_finesInThought 41 = .ok (.getfield 19, 3) := by decide +kernel
theorem dX5_finesInThought_44 : decode cX5_finesInThought 44 = .ok (.iload_n 1, 1) := by decide +kernel
theorem dX5_finesInThought_45 : decode cX5_finesInThought 45 = .ok (.iload_n 3, 1) := by decide +kernel
theorem dX5_finesInThought_46 : decode cX5_finesInThought 46 = .ok (.aload_n 0, 1) := by decide +kernel
theorem dX5_finesInThought_47 : decode cX5_finesInThought 47 = .ok (.getfield 19, 3) := by decide +kernel
theorem dX5_finesInThought_50 : decode cX5_finesInThought 50 = .ok (.iload_n 1, 1) := by decide +kernel
theorem dX5_finesInThought_51 : decode cX5_finesInThought 51 = .ok (.iload_n 3, 1) := by decide +kernel
theorem dX5_finesInThought_52 : decode cX5_finesInThought 52 = .ok (.invokevirtual 130, 3) := by decide +kernel
theorem dX5_finesInThought_55 : decode cX5_finesInThought 55 = .ok (.invokevirtual 329, 3) := by decide +kernel
theorem dX5_finesInThought_58 : decode cX5_finesInThought 58 = .ok (.iinc 3 1, 3) := by decide +kernel
theorem dX5_finesInThought_61 : decode cX5_finesInThought 61 = .ok (.goto (-46), 3) := by decide +kernel
theorem dX5_finesInThought_64 : decode cX5_finesInThought 64 = .ok (.iload_n 2, 1) := by decide +kernel
theorem dX5_finesInThought_65 : decode cX5_finesInThought 65 = .ok (.ireturn, 1) := by decide +kernel
theorem dX5_isSheetWell_0 : decode cX5_isSheetWell 0 = .ok (.iconst 0, 1) := by decide +kernel
theorem dX5_isSheetWell_1 : decode cX5_isSheetWell 1 = .ok (.istore_n 2, 1) := by decide +kernel
theorem dX5_isSheetWell_2 : decode cX5_isSheetWell 2 = .ok (.iload_n 2, 1) := by decide +kernel
theorem dX5_isSheetWell_3 : decode cX5_isSheetWell 3 = .ok (.aload_n 0, 1) := by decide +kernel
theorem dX5_isSheetWell_4 : decode cX5_isSheetWell 4 = .ok (.getfield 12, 3) := by decide +kernel
theorem dX5_isSheetWell_7 : decode cX5_isSheetWell 7 = .ok (.getfield 219, 3) := by decide +kernel
theorem dX5_isSheetWell_10 : decode cX5_isSheetWell 10 = .ok (.iload_n 1, 1) := by decide +kernel
theorem dX5_isSheetWell_11 : decode cX5_isSheetWell 11 = .ok (.iaload, 1) := by decide +kernel
theorem dX5_isSheetWell_12 : decode cX5_isSheetWell 12 = .ok (.if_icmp .ge 59, 3) := by decide +kernel
theorem dX5_isSheetWell_15 : decode cX5_isSheetWell 15 = .ok (.aload_n 0, 1) := by decide +kernel
theorem dX5_isSheetWell_16 : decode cX5_isSheetWell 16 = .ok (.getfield 12, 3) := by decide +kernel
theorem dX5_isSheetWell_19 : decode cX5_isSheetWell 19 = .ok (.iload_n 1, 1) := by decide +kernel
theorem dX5_isSheetWell_20 : decode cX5_isSheetWell 20 = .ok (.iload_n 2, 1) := by decide +kernel
theorem dX5_isSheetWell_21 : decode cX5_isSheetWell 21 = .ok (.invokevirtual 146, 3) := by decide +kernel
theorem dX5_isSheetWell_24 : decode cX5_isSheetWell 24 = .ok (.aload_n 0, 1) := by decide +kernel
theorem dX5_isSheetWell_25 : decode cX5_isSheetWell 25 = .ok (.getfield 12, 3) := by decide +kernel
theorem dX5_isSheetWell_28 : decode cX5_isSheetWell 28 = .ok (.iload_n 1, 1) := by decide +kernel
theorem dX5_isSheetWell_29 : decode cX5_isSheetWell 29 = .ok (.iload_n 2, 1) := by decide +kernel
theorem dX5_isSheetWell_30 : decode cX5_isSheetWell 30 = .ok (.invokevirtual 143, 3) := by decide +kernel
theorem dX5_isSheetWell_33 : decode cX5_isSheetWell 33 = .ok (.if_icmp .eq 5, 3) := by decide +kernel
theorem dX5_isSheetWell_36 : decode cX5_isSheetWell 36 = .ok (.iconst 0, 1) := by decide +kernel
theorem dX5_isSheetWell_37 : decode cX5_isSheetWell 37 = .ok (.ireturn, 1) := by decide +kernel
theorem dX5_isSheetWell_38 : decode cX5_isSheetWell 38 = .ok (.aload_n 0, 1) := by decide +kernel
theorem dX5_isSheetWell_39 : decode cX5_isSheetWell 39 = .ok (.getfield 12, 3) := by decide +kernel
theorem dX5_isSheetWell_42 : decode cX5_isSheetWell 42 = .ok (.iload_n 1, 1) := by decide +kernel
theorem dX5_isSheetWell_43 : decode cX5_isSheetWell 43 = .ok (.iload_n 2, 1) := by decide +kernel
theorem dX5_isSheetWell_44 : decode cX5_isSheetWell 44 = .ok (.invokevirtual 140, 3) := by decide +kernel
theorem dX5_isSheetWell_47 : decode cX5_isSheetWell 47 = .ok (.iconst 2, 1) := by decide +kernel
theorem dX5_isSheetWell_48 : decode cX5_isSheetWell 48 = .ok (.if_icmp .lt 17, 3) := by decide +kernel
theorem dX5_isSheetWell_51 : decode cX5_isSheetWell 51 = .ok (.aload_n 0, 1) := by decide +kernel
theorem dX5_isSheetWell_52 : decode cX5_isSheetWell 52 = .ok (.getfield 12, 3) := by decide +kernel
theorem dX5_isSheetWell_55 : decode cX5_isSheetWell 55 = .ok (.iload_n 1, 1) := by decide +kernel
theorem dX5_isSheetWell_56 : decode cX5_isSheetWell 56 = .ok (.iload_n 2, 1) := by decide +kernel
theorem dX5_isSheetWell_57 : decode cX5_isSheetWell 57 = .ok (.invokevirtual 389, 3) := by decide +kernel
theorem dX5_isSheetWell_60 : decode cX5_isSheetWell 60 = .ok (.ifCond .ne 5, 3) := by decide +kernel
theorem dX5_isSheetWell_63 : decode cX5_isSheetWell 63 = .ok (.iconst 0, 1) := by decide +kernel
theorem dX5_isSheetWell_64 : decode cX5_isSheetWell 64 = .ok (.ireturn, 1) := by decide +kernel
theorem dX5_isSheetWell_65 : decode cX5_isSheetWell 65 = .ok (.iinc 2 1, 3) := by decide +kernel
theorem dX5_isSheetWell_68 : decode cX5_isSheetWell 68 = .ok (.goto (-66), 3) := by decide +kernel
theorem dX5_isSheetWell_71 : decode cX5_isSheetWell 71 = .ok (.iconst 1, 1) := by decide +kernel
theorem dX5_isSheetWell_72 : decode cX5_isSheetWell 72 = .ok (.ireturn, 1) := by decide +kernel
theorem dX5_bestBargain_0 : decode cX5_bestBargain 0 = .ok (.iconst (-1), 1) := by decide +kernel
theorem dX5_bestBargain_1 : decode cX5_bestBargain 1 = .ok (.istore_n 1, 1) := by decide +kernel
theorem dX5_bestBargain_2 : decode cX5_bestBargain 2 = .ok (.iconst 0, 1) := by decide +kernel
theorem dX5_bestBargain_3 : decode cX5_bestBargain 3 = .ok (.istore_n 2, 1) := by decide +kernel
theorem dX5_bestBargain_4 : decode cX5_bestBargain 4 = .ok (.iconst 0, 1) := by decide +kernel
theorem dX5_bestBargain_5 : decode cX5_bestBargain 5 = .ok (.istore_n 3, 1) := by decide +kernel
theorem dX5_bestBargain_6 : decode cX5_bestBargain 6 = .ok (.iload_n 3, 1) := by decide +kernel
theorem dX5_bestBargain_7 : decode cX5_bestBargain 7 = .ok (.aload_n 0, 1) := by decide +kernel
theorem dX5_bestBargain_8 : decode cX5_bestBargain 8 = .ok (.getfield 12, 3) := by decide +kernel
theorem dX5_bestBargain_11 : decode cX5_bestBargain 11 = .ok (.getfield 188, 3) := by decide +kernel
theorem dX5_bestBargain_14 : decode cX5_bestBargain 14 = .ok (.if_icmp .ge 127, 3) := by decide +kernel
theorem dX5_bestBargain_17 : decode cX5_bestBargain 17 = .ok (.aload_n 0, 1) := by decide +kernel
theorem dX5_bestBargain_18 : decode cX5_bestBargain 18 = .ok (.getfield 12, 3) := by decide +kernel
theorem dX5_bestBargain_21 : decode cX5_bestBargain 21 = .ok (.aload_n 0, 1) := by decide +kernel
theorem dX5_bestBargain_22 : decode cX5_bestBargain 22 = .ok (.getfield 12, 3) := by decide +kernel
theorem dX5_bestBargain_25 : decode cX5_bestBargain 25 = .ok (.getfield 159, 3) := by decide +kernel
theorem dX5_bestBargain_28 : decode cX5_bestBargain 28 = .ok (.iload_n 3, 1) := by decide +kernel
theorem dX5_bestBargain_29 : decode cX5_bestBargain 29 = .ok (.iaload, 1) := by decide +kernel
theorem dX5_bestBargain_30 : decode cX5_bestBargain 30 = .ok (.invokevirtual 336, 3) := by decide +kernel
theorem dX5_bestBargain_33 : decode cX5_bestBargain 33 = .ok (.istore 4, 2) := by decide +kernel
theorem dX5_bestBargain_35 : decode cX5_bestBargain 35 = .ok (.aload_n 0, 1) := by decide +kernel
theorem dX5_bestBargain_36 : decode cX5_bestBargain 36 = .ok (.getfield 12, 3) := by decide +kernel
theorem dX5_bestBargain_39 : decode cX5_bestBargain 39 = .ok (.aload_n 0, 1) := by decide +kernel
theorem dX5_bestBargain_40 : decode cX5_bestBargain 40 = .ok (.getfield 12, 3) := by decide +kernel
theorem dX5_bestBargain_43 : decode cX5_bestBargain 43 = .ok (.getfield 159, 3) := by decide +kernel
theorem dX5_bestBargain_46 : decode cX5_bestBargain 46 = .ok (.iload_n 3, 1) := by decide +kernel
theorem dX5_bestBargain_47 : decode cX5_bestBargain 47 = .ok (.iaload, 1) := by decide +kernel
theorem dX5_bestBargain_48 : decode cX5_bestBargain 48 = .ok (.invokevirtual 392, 3) := by decide +kernel
theorem dX5_bestBargain_51 : decode cX5_bestBargain 51 = .ok (.istore 5, 2) := by decide +kernel
theorem dX5_bestBargain_53 : decode cX5_bestBargain 53 = .ok (.iconst 0, 1) := by decide +kernel
theorem dX5_bestBargain_54 : decode cX5_bestBargain 54 = .ok (.istore 6, 2) := by decide +kernel
theorem dX5_bestBargain_56 : decode cX5_bestBargain 56 = .ok (.iload 5, 2) := by decide +kernel
theorem dX5_bestBargain_58 : decode cX5_bestBargain 58 = .ok (.ifCond .eq 77, 3) := by decide +kernel
theorem dX5_bestBargain_61 : decode cX5_bestBargain 61 = .ok (.iload 6, 2) := by decide +kernel
theorem dX5_bestBargain_63 : decode cX5_bestBargain 63 = .ok (.aload_n 0, 1) := by decide +kernel
theorem dX5_bestBargain_64 : decode cX5_bestBargain 64 = .ok (.getfield 12, 3) := by decide +kernel
theorem dX5_bestBargain_67 : decode cX5_bestBargain 67 = .ok (.getfield 219, 3) := by decide +kernel
theorem dX5_bestBargain_70 : decode cX5_bestBargain 70 = .ok (.iload_n 3, 1) := by decide +kernel
theorem dX5_bestBargain_71 : decode cX5_bestBargain 71 = .ok (.iaload, 1) := by decide +kernel
theorem dX5_bestBargain_72 : decode cX5_bestBargain 72 = .ok (.if_icmp .ge 63, 3) := by decide +kernel
theorem dX5_bestBargain_75 : decode cX5_bestBargain 75 = .ok (.aload_n 0, 1) := by decide +kernel
theorem dX5_bestBargain_76 : decode cX5_bestBargain 76 = .ok (.getfield 12, 3) := by decide +kernel
theorem dX5_bestBargain_79 : decode cX5_bestBargain 79 = .ok (.iload_n 3, 1) := by decide +kernel
theorem dX5_bestBargain_80 : decode cX5_bestBargain 80 = .ok (.iload 6, 2) := by decide +kernel
theorem dX5_bestBargain_82 : decode cX5_bestBargain 82 = .ok (.invokevirtual 162, 3) := by decide +kernel
theorem dX5_bestBargain_85 : decode cX5_bestBargain 85 = .ok (.invokestatic 395, 3) := by decide +kernel
theorem dX5_bestBargain_88 : decode cX5_bestBargain 88 = .ok (.iload 4, 2) := by decide +kernel
theorem dX5_bestBargain_90 : decode cX5_bestBargain 90 = .ok (.isub, 1) := by decide +kernel
theorem dX5_bestBargain_91 : decode cX5_bestBargain 91 = .ok (.istore 7, 2) := by decide +kernel
theorem dX5_bestBargain_93 : decode cX5_bestBargain 93 = .ok (.aload_n 0, 1) := by decide +kernel
theorem dX5_bestBargain_94 : decode cX5_bestBargain 94 = .ok (.getfield 12, 3) := by decide +kernel
theorem dX5_bestBargain_97 : decode cX5_bestBargain 97 = .ok (.iload_n 3, 1) := by decide +kernel
theorem dX5_bestBargain_98 : decode cX5_bestBargain 98 = .ok (.iload 6, 2) := by decide +kernel
theorem dX5_bestBargain_100 : decode cX5_bestBargain 100 = .ok (.invokevirtual 140, 3) := by decide +kernel
theorem dX5_bestBargain_103 : decode cX5_bestBargain 103 = .ok (.iconst 1, 1) := by decide +kernel
theorem dX5_bestBargain_104 : decode cX5_bestBargain 104 = .ok (.if_icmp .ne 25, 3) := by decide +kernel
theorem dX5_bestBargain_107 : decode cX5_bestBargain 107 = .ok (.iload_n 1, 1) := by decide +kernel
theorem dX5_bestBargain_108 : decode cX5_bestBargain 108 = .ok (.iconst (-1), 1) := by decide +kernel
theorem dX5_bestBargain_109 : decode cX5_bestBargain 109 = .ok (.if_icmp .eq 9, 3) := by decide +kernel
theorem dX5_bestBargain_112 : decode cX5_bestBargain 112 = .ok (.iload 7, 2) := by decide +kernel
theorem dX5_bestBargain_114 : decode cX5_bestBargain 114 = .ok (.iload_n 2, 1) := by decide +kernel
theorem dX5_bestBargain_115 : decode cX5_bestBargain 115 = .ok (.if_icmp .le 14, 3) := by decide +kernel
theorem dX5_bestBargain_118 : decode cX5_bestBargain 118 = .ok (.iload_n 3, 1) := by decide +kernel
theorem dX5_bestBargain_119 : decode cX5_bestBargain 119 = .ok (.bipush 8, 2) := by decide +kernel
theorem dX5_bestBargain_121 : decode cX5_bestBargain 121 = .ok (.imul, 1) := by decide +kernel
theorem dX5_bestBargain_122 : decode cX5_bestBargain 122 = .ok (.iload 6, 2) := by decide +kernel
theorem dX5_bestBargain_124 : decode cX5_bestBargain 124 = .ok (.iadd, 1) := by decide +kernel
theorem dX5_bestBargain_125 : decode cX5_bestBargain 125 = .ok (.istore_n 1, 1) := by decide +kernel
theorem dX5_bestBargain_126 : decode cX5_bestBargain 126 = .ok (.iload 7, 2) := by decide +kernel
theorem dX5_bestBargain_128 : decode cX5_bestBargain 128 = .ok (.istore_n 2, 1) := by decide +kernel
theorem dX5_bestBargain_129 : decode cX5_bestBargain 129 = .ok (.iinc 6 1, 3) := by decide +kernel
theorem dX5_bestBargain_132 : decode cX5_bestBargain 132 = .ok (.goto (-76), 3) := by decide +kernel
theorem dX5_bestBargain_135 : decode cX5_bestBargain 135 = .ok (.iinc 3 1, 3) := by decide +kernel
theorem dX5_bestBargain_138 : decode cX5_bestBargain 138 = .ok (.goto (-132), 3) := by decide +kernel
theorem dX5_bestBargain_141 : decode cX5_bestBargain 141 = .ok (.iload_n 1, 1) := by decide +kernel
theorem dX5_bestBargain_142 : decode cX5_bestBargain 142 = .ok (.ireturn, 1) := by decide +kernel
theorem dX5_writePlace_0 : decode cX5_writePlace 0 = .ok (.aload_n 0, 1) := by decide +kernel
theorem dX5_writePlace_1 : decode cX5_writePlace 1 = .ok (.getfield 12, 3) := by decide +kernel
theorem dX5_writePlace_4 : decode cX5_writePlace 4 = .ok (.iload_n 1, 1) := by decide +kernel
theorem dX5_writePlace_5 : decode cX5_writePlace 5 = .ok (.iload_n 2, 1) := by decide +kernel
theorem dX5_writePlace_6 : decode cX5_writePlace 6 = .ok (.invokevirtual 140, 3) := by decide +kernel
theorem dX5_writePlace_9 : decode cX5_writePlace 9 = .ok (.istore_n 3, 1) := by decide +kernel
theorem dX5_writePlace_10 : decode cX5_writePlace 10 = .ok (.aload_n 0, 1) := by decide +kernel
theorem dX5_writePlace_11 : decode cX5_writePlace 11 = .ok (.getfield 12, 3) := by decide +kernel
theorem dX5_writePlace_14 : decode cX5_writePlace 14 = .ok (.iload_n 1, 1) := by decide +kernel
theorem dX5_writePlace_15 : decode cX5_writePlace 15 = .ok (.iload_n 2, 1) := by decide +kernel
theorem dX5_writePlace_16 : decode cX5_writePlace 16 = .ok (.invokevirtual 133, 3) := by decide +kernel
theorem dX5_writePlace_19 : decode cX5_writePlace 19 = .ok (.invokestatic 136, 3) := by decide +kernel
theorem dX5_writePlace_22 : decode cX5_writePlace 22 = .ok (.istore 4, 2) := by decide +kernel
theorem dX5_writePlace_24 : decode cX5_writePlace 24 = .ok (.aload_n 0, 1) := by decide +kernel
theorem dX5_writePlace_25 : decode cX5_writePlace 25 = .ok (.getfield 49, 3) := by decide +kernel
theorem dX5_writePlace_28 : decode cX5_writePlace 28 = .ok (.iload_n 3, 1) := by decide +kernel
theorem dX5_writePlace_29 : decode cX5_writePlace 29 = .ok (.ifCond .ne 8, 3) := by decide +kernel
theorem dX5_writePlace_32 : decode cX5_writePlace 32 = .ok (.iload 4, 2) := by decide +kernel
theorem dX5_writePlace_34 : decode cX5_writePlace 34 = .ok (.goto 12, 3) := by decide +kernel
theorem dX5_writePlace_37 : decode cX5_writePlace 37 = .ok (.iload 4, 2) := by decide +kernel
theorem dX5_writePlace_39 : decode cX5_writePlace 39 = .ok (.bipush 97, 2) := by decide +kernel
theorem dX5_writePlace_41 : decode cX5_writePlace 41 = .ok (.isub, 1) := by decide +kernel
theorem dX5_writePlace_42 : decode cX5_writePlace 42 = .ok (.bipush 65, 2) := by decide +kernel
theorem dX5_writePlace_44 : decode cX5_writePlace 44 = .ok (.iadd, 1) := by decide +kernel
theorem dX5_writePlace_45 : decode cX5_writePlace 45 = .ok (.i2c, 1) := by decide +kernel
theorem dX5_writePlace_46 : decode cX5_writePlace 46 = .ok (.invokevirtual 215, 3) := by decide +kernel
theorem dX5_writePlace_49 : decode cX5_writePlace 49 = .ok (.iload_n 3, 1) := by decide +kernel
theorem dX5_writePlace_50 : decode cX5_writePlace 50 = .ok (.iconst 2, 1) := by decide +kernel
theorem dX5_writePlace_51 : decode cX5_writePlace 51 = .ok (.if_icmp .ne 12, 3) := by decide +kernel
theorem dX5_writePlace_54 : decode cX5_writePlace 54 = .ok (.aload_n 0, 1) := by decide +kernel
theorem dX5_writePlace_55 : decode cX5_writePlace 55 = .ok (.getfield 49, 3) := by decide +kernel
theorem dX5_writePlace_58 : decode cX5_writePlace 58 = .ok (.bipush 39, 2) := by decide +kernel
theorem dX5_writePlace_60 : decode cX5_writePlace 60 = .ok (.invokevirtual 215, 3) := by decide +kernel
theorem dX5_writePlace_63 : decode cX5_writePlace 63 = .ok (.iload_n 3, 1) := by decide +kernel
theorem dX5_writePlace_64 : decode cX5_writePlace 64 = .ok (.iconst 3, 1) := by decide +kernel
theorem dX5_writePlace_65 : decode cX5_writePlace 65 = .ok (.if_icmp .ne 12, 3) := by decide +kernel
theorem dX5_writePlace_68 : decode cX5_writePlace 68 = .ok (.aload_n 0, 1) := by decide +kernel
theorem dX5_writePlace_69 : decode cX5_writePlace 69 = .ok (.getfield 49, 3) := by decide +kernel
theorem dX5_writePlace_72 : decode cX5_writePlace 72 = .ok (.bipush 33, 2) := by decide +kernel
theorem dX5_writePlace_74 : decode cX5_writePlace 74 = .ok (.invokevirtual 215, 3) := by decide +kernel
theorem dX5_writePlace_77 : decode cX5_writePlace 77 = .ok (.return_, 1) := by decide +kernel
theorem dX5_lettersIn_0 : decode cX5_lettersIn 0 = .ok (.iload_n 0, 1) := by decide +kernel
theorem dX5_lettersIn_1 : decode cX5_lettersIn 1 = .ok (.istore_n 1, 1) := by decide +kernel
theorem dX5_lettersIn_2 : decode cX5_lettersIn 2 = .ok (.iconst 0, 1) := by decide +kernel
theorem dX5_lettersIn_3 : decode cX5_lettersIn 3 = .ok (.istore_n 2, 1) := by decide +kernel
theorem dX5_lettersIn_4 : decode cX5_lettersIn 4 = .ok (.iload_n 2, 1) := by decide +kernel
theorem dX5_lettersIn_5 : decode cX5_lettersIn 5 = .ok (.bipush 8, 2) := by decide +kernel
theorem dX5_lettersIn_7 : decode cX5_lettersIn 7 = .ok (.if_icmp .ge 31, 3) := by decide +kernel
theorem dX5_lettersIn_10 : decode cX5_lettersIn 10 = .ok (.iload_n 1, 1) := by decide +kernel
theorem dX5_lettersIn_11 : decode cX5_lettersIn 11 = .ok (.bipush 10, 2) := by decide +kernel
theorem dX5_lettersIn_13 : decode cX5_lettersIn 13 = .ok (.irem, 1) := by decide +kernel
theorem dX5_lettersIn_14 : decode cX5_lettersIn 14 = .ok (.iconst 1, 1) := by decide +kernel
theorem dX5_lettersIn_15 : decode cX5_lettersIn 15 = .ok (.if_icmp .lt 23, 3) := by decide +kernel
theorem dX5_lettersIn_18 : decode cX5_lettersIn 18 = .ok (.iload_n 1, 1) := by decide +kernel
theorem dX5_lettersIn_19 : decode cX5_lettersIn 19 = .ok (.bipush 10, 2) := by decide +kernel
theorem dX5_lettersIn_21 : decode cX5_lettersIn 21 = .ok (.irem, 1) := by decide +kernel
theorem dX5_lettersIn_22 : decode cX5_lettersIn 22 = .ok (.bipush 6, 2) := by decide +kernel
theorem dX5_lettersIn_24 : decode cX5_lettersIn 24 = .ok (.if_icmp .gt 14, 3) := by decide +kernel
theorem dX5_lettersIn_27 : decode cX5_lettersIn 27 = .ok (.iload_n 1, 1) := by decide +kernel
theorem dX5_lettersIn_28 : decode cX5_lettersIn 28 = .ok (.bipush 10, 2) := by decide +kernel
theorem dX5_lettersIn_30 : decode cX5_lettersIn 30 = .ok (.idiv, 1) := by decide +kernel
theorem dX5_lettersIn_31 : decode cX5_lettersIn 31 = .ok (.istore_n 1, 1) := by decide +kernel
theorem dX5_lettersIn_32 : decode cX5_lettersIn 32 = .ok (.iinc 2 1, 3) := by decide +kernel
theorem dX5_lettersIn_35 : decode cX5_lettersIn 35 = .ok (.goto (-31), 3) := by decide +kernel
theorem dX5_lettersIn_38 : decode cX5_lettersIn 38 = .ok (.iload_n 1, 1) := by decide +kernel
theorem dX5_lettersIn_39 : decode cX5_lettersIn 39 = .ok (.ifCond .ne 12, 3) := by decide +kernel
theorem dX5_lettersIn_42 : decode cX5_lettersIn 42 = .ok (.iload_n 2, 1) := by decide +kernel
theorem dX5_lettersIn_43 : decode cX5_lettersIn 43 = .ok (.iconst 3, 1) := by decide +kernel
theorem dX5_lettersIn_44 : decode cX5_lettersIn 44 = .ok (.if_icmp .lt 7, 3) := by decide +kernel
theorem dX5_lettersIn_47 : decode cX5_lettersIn 47 = .ok (.iload_n 2, 1) := by decide +kernel
theorem dX5_lettersIn_48 : decode cX5_lettersIn 48 = .ok (.goto 4, 3) := by decide +kernel
theorem dX5_lettersIn_51 : decode cX5_lettersIn 51 = .ok (.iconst 0, 1) := by decide +kernel
theorem dX5_lettersIn_52 : decode cX5_lettersIn 52 = .ok (.ireturn, 1) := by decide +kernel
theorem dX5_letterOf_0 : decode cX5_letterOf 0 = .ok (.bipush 97, 2) := by decide +kernel
theorem dX5_letterOf_2 : decode cX5_letterOf 2 = .ok (.iload_n 0, 1) := by decide +kernel
theorem dX5_letterOf_3 : decode cX5_letterOf 3 = .ok (.iadd, 1) := by decide +kernel
theorem dX5_letterOf_4 : decode cX5_letterOf 4 = .ok (.iconst 1, 1) := by decide +kernel
theorem dX5_letterOf_5 : decode cX5_letterOf 5 = .ok (.isub, 1) := by decide +kernel
theorem dX5_letterOf_6 : decode cX5_letterOf 6 = .ok (.i2c, 1) := by decide +kernel
theorem dX5_letterOf_7 : decode cX5_letterOf 7 = .ok (.ireturn, 1) := by decide +kernel
theorem dX5_atMostKept_0 : decode cX5_atMostKept 0 = .ok (.bipush 99, 2) := by decide +kernel
theorem dX5_atMostKept_2 : decode cX5_atMostKept 2 = .ok (.iload_n 0, 1) := by decide +kernel
theorem dX5_atMostKept_3 : decode cX5_atMostKept 3 = .ok (.invokestatic 400, 3) := by decide +kernel
theorem dX5_atMostKept_6 : decode cX5_atMostKept 6 = .ok (.ireturn, 1) := by decide +kernel
