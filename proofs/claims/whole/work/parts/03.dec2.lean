theorem dX10_person_73 : decode cX10_person 73 = .ok (.ireturn, 1) := by decide +kernel
theorem dX10_set_0 : decode cX10_set 0 = .ok (.iload_n 1, 1) := by decide +kernel
theorem dX10_set_1 : decode cX10_set 1 = .ok (.iconst 2, 1) := by decide +kernel
theorem dX10_set_2 : decode cX10_set 2 = .ok (.if_icmp .gt 12, 3) := by decide +kernel
theorem dX10_set_5 : decode cX10_set 5 = .ok (.aload_n 0, 1) := by decide +kernel
theorem dX10_set_6 : decode cX10_set 6 = .ok (.iload_n 1, 1) := by decide +kernel
theorem dX10_set_7 : decode cX10_set 7 = .ok (.iload_n 3, 1) := by decide +kernel
theorem dX10_set_8 : decode cX10_set 8 = .ok (.invokevirtual 97, 3) := by decide +kernel
theorem dX10_set_11 : decode cX10_set 11 = .ok (.goto 10, 3) := by decide +kernel
theorem dX10_set_14 : decode cX10_set 14 = .ok (.aload_n 0, 1) := by decide +kernel
theorem dX10_set_15 : decode cX10_set 15 = .ok (.iload_n 1, 1) := by decide +kernel
theorem dX10_set_16 : decode cX10_set 16 = .ok (.iload_n 2, 1) := by decide +kernel
theorem dX10_set_17 : decode cX10_set 17 = .ok (.iload_n 3, 1) := by decide +kernel
theorem dX10_set_18 : decode cX10_set 18 = .ok (.invokevirtual 100, 3) := by decide +kernel
theorem dX10_set_21 : decode cX10_set 21 = .ok (.istore 4, 2) := by decide +kernel
theorem dX10_set_23 : decode cX10_set 23 = .ok (.iload 4, 2) := by decide +kernel
theorem dX10_set_25 : decode cX10_set 25 = .ok (.ifCond .eq 11, 3) := by decide +kernel
theorem dX10_set_28 : decode cX10_set 28 = .ok (.aload_n 0, 1) := by decide +kernel
theorem dX10_set_29 : decode cX10_set 29 = .ok (.getfield 27, 3) := by decide +kernel
theorem dX10_set_32 : decode cX10_set 32 = .ok (.iconst 0, 1) := by decide +kernel
theorem dX10_set_33 : decode cX10_set 33 = .ok (.putfield 72, 3) := by decide +kernel
theorem dX10_set_36 : decode cX10_set 36 = .ok (.iload 4, 2) := by decide +kernel
theorem dX10_set_38 : decode cX10_set 38 = .ok (.ireturn, 1) := by decide +kernel
theorem dX10_setValley_0 : decode cX10_setValley 0 = .ok (.iload_n 1, 1) := by decide +kernel
theorem dX10_setValley_1 : decode cX10_setValley 1 = .ok (.ifCond .ne 21, 3) := by decide +kernel
theorem dX10_setValley_4 : decode cX10_setValley 4 = .ok (.iload_n 2, 1) := by decide +kernel
theorem dX10_setValley_5 : decode cX10_setValley 5 = .ok (.iconst 3, 1) := by decide +kernel
theorem dX10_setValley_6 : decode cX10_setValley 6 = .ok (.invokestatic 79, 3) := by decide +kernel
theorem dX10_setValley_9 : decode cX10_setValley 9 = .ok (.ifCond .eq 13, 3) := by decide +kernel
theorem dX10_setValley_12 : decode cX10_setValley 12 = .ok (.aload_n 0, 1) := by decide +kernel
theorem dX10_setValley_13 : decode cX10_setValley 13 = .ok (.getfield 14, 3) := by decide +kernel
theorem dX10_setValley_16 : decode cX10_setValley 16 = .ok (.iload_n 2, 1) := by decide +kernel
theorem dX10_setValley_17 : decode cX10_setValley 17 = .ok (.putfield 104, 3) := by decide +kernel
theorem dX10_setValley_20 : decode cX10_setValley 20 = .ok (.iconst 1, 1) := by decide +kernel
theorem dX10_setValley_21 : decode cX10_setValley 21 = .ok (.ireturn, 1) := by decide +kernel
theorem dX10_setValley_22 : decode cX10_setValley 22 = .ok (.iload_n 1, 1) := by decide +kernel
theorem dX10_setValley_23 : decode cX10_setValley 23 = .ok (.iconst 1, 1) := by decide +kernel
theorem dX10_setValley_24 : decode cX10_setValley 24 = .ok (.if_icmp .ne 24, 3) := by decide +kernel
theorem dX10_setValley_27 : decode cX10_setValley 27 = .ok (.iload_n 2, 1) := by decide +kernel
theorem dX10_setValley_28 : decode cX10_setValley 28 = .ok (.iconst 1, 1) := by decide +kernel
theorem dX10_setValley_29 : decode cX10_setValley 29 = .ok (.if_icmp .lt 19, 3) := by decide +kernel
theorem dX10_setValley_32 : decode cX10_setValley 32 = .ok (.iload_n 2, 1) := by decide +kernel
theorem dX10_setValley_33 : decode cX10_setValley 33 = .ok (.bipush 99, 2) := by decide +kernel
theorem dX10_setValley_35 : decode cX10_setValley 35 = .ok (.if_icmp .gt 13, 3) := by decide +kernel
theorem dX10_setValley_38 : decode cX10_setValley 38 = .ok (.aload_n 0, 1) := by decide +kernel
theorem dX10_setValley_39 : decode cX10_setValley 39 = .ok (.getfield 14, 3) := by decide +kernel
theorem dX10_setValley_42 : decode cX10_setValley 42 = .ok (.iload_n 2, 1) := by decide +kernel
theorem dX10_setValley_43 : decode cX10_setValley 43 = .ok (.putfield 107, 3) := by decide +kernel
theorem dX10_setValley_46 : decode cX10_setValley 46 = .ok (.iconst 1, 1) := by decide +kernel
theorem dX10_setValley_47 : decode cX10_setValley 47 = .ok (.ireturn, 1) := by decide +kernel
theorem dX10_setValley_48 : decode cX10_setValley 48 = .ok (.iload_n 1, 1) := by decide +kernel
theorem dX10_setValley_49 : decode cX10_setValley 49 = .ok (.iconst 2, 1) := by decide +kernel
theorem dX10_setValley_50 : decode cX10_setValley 50 = .ok (.if_icmp .ne 23, 3) := by decide +kernel
theorem dX10_setValley_53 : decode cX10_setValley 53 = .ok (.iload_n 2, 1) := by decide +kernel
theorem dX10_setValley_54 : decode cX10_setValley 54 = .ok (.sipush 1000, 3) := by decide +kernel
theorem dX10_setValley_57 : decode cX10_setValley 57 = .ok (.invokestatic 79, 3) := by decide +kernel
theorem dX10_setValley_60 : decode cX10_setValley 60 = .ok (.ifCond .eq 13, 3) := by decide +kernel
theorem dX10_setValley_63 : decode cX10_setValley 63 = .ok (.aload_n 0, 1) := by decide +kernel
theorem dX10_setValley_64 : decode cX10_setValley 64 = .ok (.getfield 14, 3) := by decide +kernel
theorem dX10_setValley_67 : decode cX10_setValley 67 = .ok (.iload_n 2, 1) := by decide +kernel
theorem dX10_setValley_68 : decode cX10_setValley 68 = .ok (.putfield 110, 3) := by decide +kernel
theorem dX10_setValley_71 : decode cX10_setValley 71 = .ok (.iconst 1, 1) := by decide +kernel
theorem dX10_setValley_72 : decode cX10_setValley 72 = .ok (.ireturn, 1) := by decide +kernel
theorem dX10_setValley_73 : decode cX10_setValley 73 = .ok (.iconst 0, 1) := by decide +kernel
theorem dX10_setValley_74 : decode cX10_setValley 74 = .ok (.ireturn, 1) := by decide +kernel
theorem dX10_setOne_0 : decode cX10_setOne 0 = .ok (.iload_n 1, 1) := by decide +kernel
theorem dX10_setOne_1 : decode cX10_setOne 1 = .ok (.iconst 3, 1) := by decide +kernel
theorem dX10_setOne_2 : decode cX10_setOne 2 = .ok (.if_icmp .ne 35, 3) := by decide +kernel
theorem dX10_setOne_5 : decode cX10_setOne 5 = .ok (.aload_n 0, 1) := by decide +kernel
theorem dX10_setOne_6 : decode cX10_setOne 6 = .ok (.getfield 14, 3) := by decide +kernel
theorem dX10_setOne_9 : decode cX10_setOne 9 = .ok (.iload_n 2, 1) := by decide +kernel
theorem dX10_setOne_10 : decode cX10_setOne 10 = .ok (.invokevirtual 83, 3) := by decide +kernel
theorem dX10_setOne_13 : decode cX10_setOne 13 = .ok (.ifCond .eq 24, 3) := by decide +kernel
theorem dX10_setOne_16 : decode cX10_setOne 16 = .ok (.iload_n 3, 1) := by decide +kernel
theorem dX10_setOne_17 : decode cX10_setOne 17 = .ok (.bipush 99, 2) := by decide +kernel
theorem dX10_setOne_19 : decode cX10_setOne 19 = .ok (.invokestatic 79, 3) := by decide +kernel
theorem dX10_setOne_22 : decode cX10_setOne 22 = .ok (.ifCond .eq 15, 3) := by decide +kernel
theorem dX10_setOne_25 : decode cX10_setOne 25 = .ok (.aload_n 0, 1) := by decide +kernel
theorem dX10_setOne_26 : decode cX10_setOne 26 = .ok (.getfield 14, 3) := by decide +kernel
theorem dX10_setOne_29 : decode cX10_setOne 29 = .ok (.getfield 113, 3) := by decide +kernel
theorem dX10_setOne_32 : decode cX10_setOne 32 = .ok (.iload_n 2, 1) := by decide +kernel
theorem dX10_setOne_33 : decode cX10_setOne 33 = .ok (.iload_n 3, 1) := by decide +kernel
theorem dX10_setOne_34 : decode cX10_setOne 34 = .ok (.iastore, 1) := by decide +kernel
theorem dX10_setOne_35 : decode cX10_setOne 35 = .ok (.iconst 1, 1) := by decide +kernel
theorem dX10_setOne_36 : decode cX10_setOne 36 = .ok (.ireturn, 1) := by decide +kernel
theorem dX10_setOne_37 : decode cX10_setOne 37 = .ok (.aload_n 0, 1) := by decide +kernel
theorem dX10_setOne_38 : decode cX10_setOne 38 = .ok (.getfield 14, 3) := by decide +kernel
theorem dX10_setOne_41 : decode cX10_setOne 41 = .ok (.getfield 87, 3) := by decide +kernel
theorem dX10_setOne_44 : decode cX10_setOne 44 = .ok (.iload_n 2, 1) := by decide +kernel
theorem dX10_setOne_45 : decode cX10_setOne 45 = .ok (.invokevirtual 117, 3) := by decide +kernel
theorem dX10_setOne_48 : decode cX10_setOne 48 = .ok (.ifCond .eq 12, 3) := by decide +kernel
theorem dX10_setOne_51 : decode cX10_setOne 51 = .ok (.iload_n 3, 1) := by decide +kernel
theorem dX10_setOne_52 : decode cX10_setOne 52 = .ok (.bipush 9, 2) := by decide +kernel
theorem dX10_setOne_54 : decode cX10_setOne 54 = .ok (.invokestatic 79, 3) := by decide +kernel
theorem dX10_setOne_57 : decode cX10_setOne 57 = .ok (.ifCond .ne 5, 3) := by decide +kernel
theorem dX10_setOne_60 : decode cX10_setOne 60 = .ok (.iconst 0, 1) := by decide +kernel
theorem dX10_setOne_61 : decode cX10_setOne 61 = .ok (.ireturn, 1) := by decide +kernel
theorem dX10_setOne_62 : decode cX10_setOne 62 = .ok (.iload_n 1, 1) := by decide +kernel
theorem dX10_setOne_63 : decode cX10_setOne 63 = .ok (.iconst 4, 1) := by decide +kernel
theorem dX10_setOne_64 : decode cX10_setOne 64 = .ok (.if_icmp .ne 18, 3) := by decide +kernel
theorem dX10_setOne_67 : decode cX10_setOne 67 = .ok (.aload_n 0, 1) := by decide +kernel
theorem dX10_setOne_68 : decode cX10_setOne 68 = .ok (.getfield 14, 3) := by decide +kernel
theorem dX10_setOne_71 : decode cX10_setOne 71 = .ok (.getfield 87, 3) := by decide +kernel
theorem dX10_setOne_74 : decode cX10_setOne 74 = .ok (.getfield 120, 3) := by decide +kernel
theorem dX10_setOne_77 : decode cX10_setOne 77 = .ok (.iload_n 2, 1) := by decide +kernel
theorem dX10_setOne_78 : decode cX10_setOne 78 = .ok (.iload_n 3, 1) := by decide +kernel
theorem dX10_setOne_79 : decode cX10_setOne 79 = .ok (.iastore, 1) := by decide +kernel
theorem dX10_setOne_80 : decode cX10_setOne 80 = .ok (.iconst 1, 1) := by decide +kernel
theorem dX10_setOne_81 : decode cX10_setOne 81 = .ok (.ireturn, 1) := by decide +kernel
theorem dX10_setOne_82 : decode cX10_setOne 82 = .ok (.iload_n 1, 1) := by decide +kernel
theorem dX10_setOne_83 : decode cX10_setOne 83 = .ok (.iconst 5, 1) := by decide +kernel
theorem dX10_setOne_84 : decode cX10_setOne 84 = .ok (.if_icmp .ne 18, 3) := by decide +kernel
theorem dX10_setOne_87 : decode cX10_setOne 87 = .ok (.aload_n 0, 1) := by decide +kernel
theorem dX10_setOne_88 : decode cX10_setOne 88 = .ok (.getfield 14, 3) := by decide +kernel
theorem dX10_setOne_91 : decode cX10_setOne 91 = .ok (.getfield 87, 3) := by decide +kernel
theorem dX10_setOne_94 : decode cX10_setOne 94 = .ok (.getfield 123, 3) := by decide +kernel
theorem dX10_setOne_97 : decode cX10_setOne 97 = .ok (.iload_n 2, 1) := by decide +kernel
theorem dX10_setOne_98 : decode cX10_setOne 98 = .ok (.iload_n 3, 1) := by decide +kernel
theorem dX10_setOne_99 : decode cX10_setOne 99 = .ok (.iastore, 1) := by decide +kernel
theorem dX10_setOne_100 : decode cX10_setOne 100 = .ok (.iconst 1, 1) := by decide +kernel
theorem dX10_setOne_101 : decode cX10_setOne 101 = .ok (.ireturn, 1) := by decide +kernel
theorem dX10_setOne_102 : decode cX10_setOne 102 = .ok (.iconst 0, 1) := by decide +kernel
theorem dX10_setOne_103 : decode cX10_setOne 103 = .ok (.ireturn, 1) := by decide +kernel
theorem dX10_kin_0 : decode cX10_kin 0 = .ok (.aload_n 0, 1) := by decide +kernel
theorem dX10_kin_1 : decode cX10_kin 1 = .ok (.getfield 14, 3) := by decide +kernel
theorem dX10_kin_4 : decode cX10_kin 4 = .ok (.getfield 87, 3) := by decide +kernel
theorem dX10_kin_7 : decode cX10_kin 7 = .ok (.iload_n 1, 1) := by decide +kernel
theorem dX10_kin_8 : decode cX10_kin 8 = .ok (.iload_n 2, 1) := by decide +kernel
theorem dX10_kin_9 : decode cX10_kin 9 = .ok (.invokevirtual 126, 3) := by decide +kernel
theorem dX10_kin_12 : decode cX10_kin 12 = .ok (.ifCond .ne 5, 3) := by decide +kernel
theorem dX10_kin_15 : decode cX10_kin 15 = .ok (.iconst 0, 1) := by decide +kernel
theorem dX10_kin_16 : decode cX10_kin 16 = .ok (.ireturn, 1) := by decide +kernel
theorem dX10_kin_17 : decode cX10_kin 17 = .ok (.aload_n 0, 1) := by decide +kernel
theorem dX10_kin_18 : decode cX10_kin 18 = .ok (.getfield 14, 3) := by decide +kernel
theorem dX10_kin_21 : decode cX10_kin 21 = .ok (.getfield 87, 3) := by decide +kernel
theorem dX10_kin_24 : decode cX10_kin 24 = .ok (.iload_n 1, 1) := by decide +kernel
theorem dX10_kin_25 : decode cX10_kin 25 = .ok (.iload_n 2, 1) := by decide +kernel
theorem dX10_kin_26 : decode cX10_kin 26 = .ok (.iload_n 3, 1) := by decide +kernel
theorem dX10_kin_27 : decode cX10_kin 27 = .ok (.invokevirtual 129, 3) := by decide +kernel
theorem dX10_kin_30 : decode cX10_kin 30 = .ok (.aload_n 0, 1) := by decide +kernel
theorem dX10_kin_31 : decode cX10_kin 31 = .ok (.getfield 27, 3) := by decide +kernel
theorem dX10_kin_34 : decode cX10_kin 34 = .ok (.iconst 0, 1) := by decide +kernel
theorem dX10_kin_35 : decode cX10_kin 35 = .ok (.putfield 72, 3) := by decide +kernel
theorem dX10_kin_38 : decode cX10_kin 38 = .ok (.iconst 1, 1) := by decide +kernel
theorem dX10_kin_39 : decode cX10_kin 39 = .ok (.ireturn, 1) := by decide +kernel
theorem dX10_vow_0 : decode cX10_vow 0 = .ok (.aload_n 0, 1) := by decide +kernel
theorem dX10_vow_1 : decode cX10_vow 1 = .ok (.getfield 14, 3) := by decide +kernel
theorem dX10_vow_4 : decode cX10_vow 4 = .ok (.iload_n 3, 1) := by decide +kernel
theorem dX10_vow_5 : decode cX10_vow 5 = .ok (.invokevirtual 83, 3) := by decide +kernel
theorem dX10_vow_8 : decode cX10_vow 8 = .ok (.ifCond .eq 18, 3) := by decide +kernel
theorem dX10_vow_11 : decode cX10_vow 11 = .ok (.aload_n 0, 1) := by decide +kernel
theorem dX10_vow_12 : decode cX10_vow 12 = .ok (.getfield 14, 3) := by decide +kernel
theorem dX10_vow_15 : decode cX10_vow 15 = .ok (.getfield 87, 3) := by decide +kernel
theorem dX10_vow_18 : decode cX10_vow 18 = .ok (.iload_n 1, 1) := by decide +kernel
theorem dX10_vow_19 : decode cX10_vow 19 = .ok (.iload_n 2, 1) := by decide +kernel
theorem dX10_vow_20 : decode cX10_vow 20 = .ok (.invokevirtual 133, 3) := by decide +kernel
theorem dX10_vow_23 : decode cX10_vow 23 = .ok (.ifCond .ne 5, 3) := by decide +kernel
theorem dX10_vow_26 : decode cX10_vow 26 = .ok (.iconst (-1), 1) := by decide +kernel
theorem dX10_vow_27 : decode cX10_vow 27 = .ok (.ireturn, 1) := by decide +kernel
theorem dX10_vow_28 : decode cX10_vow 28 = .ok (.aload_n 0, 1) := by decide +kernel
theorem dX10_vow_29 : decode cX10_vow 29 = .ok (.getfield 27, 3) := by decide +kernel
theorem dX10_vow_32 : decode cX10_vow 32 = .ok (.aload_n 0, 1) := by decide +kernel
theorem dX10_vow_33 : decode cX10_vow 33 = .ok (.getfield 14, 3) := by decide +kernel
theorem dX10_vow_36 : decode cX10_vow 36 = .ok (.invokevirtual 136, 3) := by decide +kernel
theorem dX10_vow_39 : decode cX10_vow 39 = .ok (.aload_n 0, 1) := by decide +kernel
theorem dX10_vow_40 : decode cX10_vow 40 = .ok (.getfield 14, 3) := by decide +kernel
theorem dX10_vow_43 : decode cX10_vow 43 = .ok (.iload_n 1, 1) := by decide +kernel
theorem dX10_vow_44 : decode cX10_vow 44 = .ok (.iload_n 2, 1) := by decide +kernel
theorem dX10_vow_45 : decode cX10_vow 45 = .ok (.iload_n 3, 1) := by decide +kernel
theorem dX10_vow_46 : decode cX10_vow 46 = .ok (.invokevirtual 140, 3) := by decide +kernel
theorem dX10_vow_49 : decode cX10_vow 49 = .ok (.ireturn, 1) := by decide +kernel
theorem dX10_part_0 : decode cX10_part 0 = .ok (.aload_n 0, 1) := by decide +kernel
theorem dX10_part_1 : decode cX10_part 1 = .ok (.getfield 14, 3) := by decide +kernel
theorem dX10_part_4 : decode cX10_part 4 = .ok (.getfield 87, 3) := by decide +kernel
theorem dX10_part_7 : decode cX10_part 7 = .ok (.iload_n 1, 1) := by decide +kernel
theorem dX10_part_8 : decode cX10_part 8 = .ok (.iload_n 2, 1) := by decide +kernel
theorem dX10_part_9 : decode cX10_part 9 = .ok (.invokevirtual 126, 3) := by decide +kernel
theorem dX10_part_12 : decode cX10_part 12 = .ok (.ifCond .eq 19, 3) := by decide +kernel
theorem dX10_part_15 : decode cX10_part 15 = .ok (.aload_n 0, 1) := by decide +kernel
theorem dX10_part_16 : decode cX10_part 16 = .ok (.getfield 14, 3) := by decide +kernel
theorem dX10_part_19 : decode cX10_part 19 = .ok (.getfield 87, 3) := by decide +kernel
theorem dX10_part_22 : decode cX10_part 22 = .ok (.getfield 144, 3) := by decide +kernel
theorem dX10_part_25 : decode cX10_part 25 = .ok (.iload_n 1, 1) := by decide +kernel
theorem dX10_part_26 : decode cX10_part 26 = .ok (.iaload, 1) := by decide +kernel
theorem dX10_part_27 : decode cX10_part 27 = .ok (.iload_n 2, 1) := by decide +kernel
theorem dX10_part_28 : decode cX10_part 28 = .ok (.if_icmp .eq 5, 3) := by decide +kernel
theorem dX10_part_31 : decode cX10_part 31 = .ok (.iconst 0, 1) := by decide +kernel
theorem dX10_part_32 : decode cX10_part 32 = .ok (.ireturn, 1) := by decide +kernel
theorem dX10_part_33 : decode cX10_part 33 = .ok (.aload_n 0, 1) := by decide +kernel
theorem dX10_part_34 : decode cX10_part 34 = .ok (.getfield 27, 3) := by decide +kernel
theorem dX10_part_37 : decode cX10_part 37 = .ok (.aload_n 0, 1) := by decide +kernel
theorem dX10_part_38 : decode cX10_part 38 = .ok (.getfield 14, 3) := by decide +kernel
theorem dX10_part_41 : decode cX10_part 41 = .ok (.invokevirtual 136, 3) := by decide +kernel
theorem dX10_part_44 : decode cX10_part 44 = .ok (.aload_n 0, 1) := by decide +kernel
theorem dX10_part_45 : decode cX10_part 45 = .ok (.getfield 14, 3) := by decide +kernel
theorem dX10_part_48 : decode cX10_part 48 = .ok (.getfield 87, 3) := by decide +kernel
theorem dX10_part_51 : decode cX10_part 51 = .ok (.getfield 144, 3) := by decide +kernel
theorem dX10_part_54 : decode cX10_part 54 = .ok (.iload_n 1, 1) := by decide +kernel
theorem dX10_part_55 : decode cX10_part 55 = .ok (.iconst (-1), 1) := by decide +kernel
theorem dX10_part_56 : decode cX10_part 56 = .ok (.iastore, 1) := by decide +kernel
theorem dX10_part_57 : decode cX10_part 57 = .ok (.aload_n 0, 1) := by decide +kernel
theorem dX10_part_58 : decode cX10_part 58 = .ok (.getfield 14, 3) := by decide +kernel
theorem dX10_part_61 : decode cX10_part 61 = .ok (.getfield 87, 3) := by decide +kernel
theorem dX10_part_64 : decode cX10_part 64 = .ok (.getfield 144, 3) := by decide +kernel
theorem dX10_part_67 : decode cX10_part 67 = .ok (.iload_n 2, 1) := by decide +kernel
theorem dX10_part_68 : decode cX10_part 68 = .ok (.iconst (-1), 1) := by decide +kernel
theorem dX10_part_69 : decode cX10_part 69 = .ok (.iastore, 1) := by decide +kernel
theorem dX10_part_70 : decode cX10_part 70 = .ok (.aload_n 0, 1) := by decide +kernel
theorem dX10_part_71 : decode cX10_part 71 = .ok (.getfield 14, 3) := by decide +kernel
theorem dX10_part_74 : decode cX10_part 74 = .ok (.iconst 5, 1) := by decide +kernel
theorem dX10_part_75 : decode cX10_part 75 = .ok (.iload_n 1, 1) := by decide +kernel
theorem dX10_part_76 : decode cX10_part 76 = .ok (.iload_n 2, 1) := by decide +kernel
theorem dX10_part_77 : decode cX10_part 77 = .ok (.invokestatic 147, 3) := by decide +kernel
theorem dX10_part_80 : decode cX10_part 80 = .ok (.iconst 0, 1) := by decide +kernel
theorem dX10_part_81 : decode cX10_part 81 = .ok (.invokevirtual 153, 3) := by decide +kernel
theorem dX10_part_84 : decode cX10_part 84 = .ok (.iconst 1, 1) := by decide +kernel
theorem dX10_part_85 : decode cX10_part 85 = .ok (.ireturn, 1) := by decide +kernel
theorem dX10_sweep_0 : decode cX10_sweep 0 = .ok (.aload_n 0, 1) := by decide +kernel
theorem dX10_sweep_1 : decode cX10_sweep 1 = .ok (.getfield 14, 3) := by decide +kernel
theorem dX10_sweep_4 : decode cX10_sweep 4 = .ok (.iload_n 1, 1) := by decide +kernel
theorem dX10_sweep_5 : decode cX10_sweep 5 = .ok (.invokevirtual 83, 3) := by decide +kernel
theorem dX10_sweep_8 : decode cX10_sweep 8 = .ok (.ifCond .ne 5, 3) := by decide +kernel
theorem dX10_sweep_11 : decode cX10_sweep 11 = .ok (.iconst (-1), 1) := by decide +kernel
theorem dX10_sweep_12 : decode cX10_sweep 12 = .ok (.ireturn, 1) := by decide +kernel
theorem dX10_sweep_13 : decode cX10_sweep 13 = .ok (.aload_n 0, 1) := by decide +kernel
theorem dX10_sweep_14 : decode cX10_sweep 14 = .ok (.getfield 27, 3) := by decide +kernel
theorem dX10_sweep_17 : decode cX10_sweep 17 = .ok (.aload_n 0, 1) := by decide +kernel
theorem dX10_sweep_18 : decode cX10_sweep 18 = .ok (.getfield 14, 3) := by decide +kernel
theorem dX10_sweep_21 : decode cX10_sweep 21 = .ok (.invokevirtual 136, 3) := by decide +kernel
theorem dX10_sweep_24 : decode cX10_sweep 24 = .ok (.aload_n 0, 1) := by decide +kernel
theorem dX10_sweep_25 : decode cX10_sweep 25 = .ok (.getfield 14, 3) := by decide +kernel
theorem dX10_sweep_28 : decode cX10_sweep 28 = .ok (.getfield 113, 3) := by decide +kernel
theorem dX10_sweep_31 : decode cX10_sweep 31 = .ok (.iload_n 1, 1) := by decide +kernel
theorem dX10_sweep_32 : decode cX10_sweep 32 = .ok (.iaload, 1) := by decide +kernel
theorem dX10_sweep_33 : decode cX10_sweep 33 = .ok (.istore_n 2, 1) := by decide +kernel
theorem dX10_sweep_34 : decode cX10_sweep 34 = .ok (.aload_n 0, 1) := by decide +kernel
theorem dX10_sweep_35 : decode cX10_sweep 35 = .ok (.getfield 14, 3) := by decide +kernel
theorem dX10_sweep_38 : decode cX10_sweep 38 = .ok (.getfield 113, 3) := by decide +kernel
theorem dX10_sweep_41 : decode cX10_sweep 41 = .ok (.iload_n 1, 1) := by decide +kernel
theorem dX10_sweep_42 : decode cX10_sweep 42 = .ok (.iconst 0, 1) := by decide +kernel
theorem dX10_sweep_43 : decode cX10_sweep 43 = .ok (.iastore, 1) := by decide +kernel
theorem dX10_sweep_44 : decode cX10_sweep 44 = .ok (.aload_n 0, 1) := by decide +kernel
theorem dX10_sweep_45 : decode cX10_sweep 45 = .ok (.getfield 14, 3) := by decide +kernel
theorem dX10_sweep_48 : decode cX10_sweep 48 = .ok (.bipush 6, 2) := by decide +kernel
theorem dX10_sweep_50 : decode cX10_sweep 50 = .ok (.iload_n 1, 1) := by decide +kernel
theorem dX10_sweep_51 : decode cX10_sweep 51 = .ok (.iload_n 2, 1) := by decide +kernel
theorem dX10_sweep_52 : decode cX10_sweep 52 = .ok (.invokevirtual 153, 3) := by decide +kernel
theorem dX10_sweep_55 : decode cX10_sweep 55 = .ok (.iload_n 2, 1) := by decide +kernel
theorem dX10_sweep_56 : decode cX10_sweep 56 = .ok (.ireturn, 1) := by decide +kernel
theorem dX10_days_0 : decode cX10_days 0 = .ok (.iload_n 1, 1) := by decide +kernel
theorem dX10_days_1 : decode cX10_days 1 = .ok (.iconst 1, 1) := by decide +kernel
theorem dX10_days_2 : decode cX10_days 2 = .ok (.if_icmp .lt 24, 3) := by decide +kernel
theorem dX10_days_5 : decode cX10_days 5 = .ok (.iload_n 1, 1) := by decide +kernel
theorem dX10_days_6 : decode cX10_days 6 = .ok (.bipush 60, 2) := by decide +kernel
theorem dX10_days_8 : decode cX10_days 8 = .ok (.if_icmp .gt 18, 3) := by decide +kernel
theorem dX10_days_11 : decode cX10_days 11 = .ok (.aload_n 0, 1) := by decide +kernel
theorem dX10_days_12 : decode cX10_days 12 = .ok (.getfield 14, 3) := by decide +kernel
theorem dX10_days_15 : decode cX10_days 15 = .ok (.getfield 157, 3) := by decide +kernel
theorem dX10_days_18 : decode cX10_days 18 = .ok (.iload_n 1, 1) := by decide +kernel
theorem dX10_days_19 : decode cX10_days 19 = .ok (.iadd, 1) := by decide +kernel
theorem dX10_days_20 : decode cX10_days 20 = .ok (.sipush 9999, 3) := by decide +kernel
theorem dX10_days_23 : decode cX10_days 23 = .ok (.if_icmp .le 5, 3) := by decide +kernel
theorem dX10_days_26 : decode cX10_days 26 = .ok (.iconst (-1), 1) := by decide +kernel
theorem dX10_days_27 : decode cX10_days 27 = .ok (.ireturn, 1) := by decide +kernel
theorem dX10_days_28 : decode cX10_days 28 = .ok (.iconst 0, 1) := by decide +kernel
theorem dX10_days_29 : decode cX10_days 29 = .ok (.istore_n 2, 1) := by decide +kernel
theorem dX10_days_30 : decode cX10_days 30 = .ok (.iconst 0, 1) := by decide +kernel
theorem dX10_days_31 : decode cX10_days 31 = .ok (.istore_n 3, 1) := by decide +kernel
theorem dX10_days_32 : decode cX10_days 32 = .ok (.iload_n 3, 1) := by decide +kernel
theorem dX10_days_33 : decode cX10_days 33 = .ok (.iload_n 1, 1) := by decide +kernel
theorem dX10_days_34 : decode cX10_days 34 = .ok (.if_icmp .ge 30, 3) := by decide +kernel
theorem dX10_days_37 : decode cX10_days 37 = .ok (.aload_n 0, 1) := by decide +kernel
theorem dX10_days_38 : decode cX10_days 38 = .ok (.getfield 27, 3) := by decide +kernel
theorem dX10_days_41 : decode cX10_days 41 = .ok (.aload_n 0, 1) := by decide +kernel
theorem dX10_days_42 : decode cX10_days 42 = .ok (.getfield 14, 3) := by decide +kernel
theorem dX10_days_45 : decode cX10_days 45 = .ok (.invokevirtual 136, 3) := by decide +kernel
theorem dX10_days_48 : decode cX10_days 48 = .ok (.iload_n 2, 1) := by decide +kernel
theorem dX10_days_49 : decode cX10_days 49 = .ok (.aload_n 0, 1) := by decide +kernel
theorem dX10_days_50 : decode cX10_days 50 = .ok (.getfield 14, 3) := by decide +kernel
theorem dX10_days_53 : decode cX10_days 53 = .ok (.invokevirtual 160, 3) := by decide +kernel
theorem dX10_days_56 : decode cX10_days 56 = .ok (.iadd, 1) := by decide +kernel
theorem dX10_days_57 : decode cX10_days 57 = .ok (.istore_n 2, 1) := by decide +kernel
theorem dX10_days_58 : decode cX10_days 58 = .ok (.iinc 3 1, 3) := by decide +kernel
theorem dX10_days_61 : decode cX10_days 61 = .ok (.goto (-29), 3) := by decide +kernel
theorem dX10_days_64 : decode cX10_days 64 = .ok (.iload_n 2, 1) := by decide +kernel
theorem dX10_days_65 : decode cX10_days 65 = .ok (.ireturn, 1) := by decide +kernel
theorem dX10_feed_0 : decode cX10_feed 0 = .ok (.aload_n 0, 1) := by decide +kernel
theorem dX10_feed_1 : decode cX10_feed 1 = .ok (.getfield 34, 3) := by decide +kernel
theorem dX10_feed_4 : decode cX10_feed 4 = .ok (.getfield 164, 3) := by decide +kernel
theorem dX10_feed_7 : decode cX10_feed 7 = .ok (.bipush 20, 2) := by decide +kernel
theorem dX10_feed_9 : decode cX10_feed 9 = .ok (.iadd, 1) := by decide +kernel
theorem dX10_feed_10 : decode cX10_feed 10 = .ok (.sipush 400, 3) := by decide +kernel
theorem dX10_feed_13 : decode cX10_feed 13 = .ok (.if_icmp .le 5, 3) := by decide +kernel
theorem dX10_feed_16 : decode cX10_feed 16 = .ok (.iconst (-1), 1) := by decide +kernel
theorem dX10_feed_17 : decode cX10_feed 17 = .ok (.ireturn, 1) := by decide +kernel
theorem dX10_feed_18 : decode cX10_feed 18 = .ok (.aload_n 0, 1) := by decide +kernel
theorem dX10_feed_19 : decode cX10_feed 19 = .ok (.getfield 34, 3) := by decide +kernel
theorem dX10_feed_22 : decode cX10_feed 22 = .ok (.iload_n 1, 1) := by decide +kernel
theorem dX10_feed_23 : decode cX10_feed 23 = .ok (.invokevirtual 167, 3) := by decide +kernel
theorem dX10_feed_26 : decode cX10_feed 26 = .ok (.aload_n 0, 1) := by decide +kernel
theorem dX10_feed_27 : decode cX10_feed 27 = .ok (.getfield 34, 3) := by decide +kernel
theorem dX10_feed_30 : decode cX10_feed 30 = .ok (.iload_n 2, 1) := by decide +kernel
theorem dX10_feed_31 : decode cX10_feed 31 = .ok (.invokevirtual 167, 3) := by decide +kernel
theorem dX10_feed_34 : decode cX10_feed 34 = .ok (.aload_n 0, 1) := by decide +kernel
theorem dX10_feed_35 : decode cX10_feed 35 = .ok (.getfield 34, 3) := by decide +kernel
theorem dX10_feed_38 : decode cX10_feed 38 = .ok (.iload_n 3, 1) := by decide +kernel
theorem dX10_feed_39 : decode cX10_feed 39 = .ok (.invokevirtual 167, 3) := by decide +kernel
theorem dX10_feed_42 : decode cX10_feed 42 = .ok (.aload_n 0, 1) := by decide +kernel
theorem dX10_feed_43 : decode cX10_feed 43 = .ok (.getfield 34, 3) := by decide +kernel
theorem dX10_feed_46 : decode cX10_feed 46 = .ok (.iload 4, 2) := by decide +kernel
theorem dX10_feed_48 : decode cX10_feed 48 = .ok (.invokevirtual 167, 3) := by decide +kernel
theorem dX10_feed_51 : decode cX10_feed 51 = .ok (.aload_n 0, 1) := by decide +kernel
theorem dX10_feed_52 : decode cX10_feed 52 = .ok (.getfield 34, 3) := by decide +kernel
theorem dX10_feed_55 : decode cX10_feed 55 = .ok (.iload 5, 2) := by decide +kernel
theorem dX10_feed_57 : decode cX10_feed 57 = .ok (.invokevirtual 167, 3) := by decide +kernel
theorem dX10_feed_60 : decode cX10_feed 60 = .ok (.aload_n 0, 1) := by decide +kernel
theorem dX10_feed_61 : decode cX10_feed 61 = .ok (.getfield 34, 3) := by decide +kernel
theorem dX10_feed_64 : decode cX10_feed 64 = .ok (.getfield 164, 3) := by decide +kernel
theorem dX10_feed_67 : decode cX10_feed 67 = .ok (.ireturn, 1) := by decide +kernel
theorem dX10_end_0 : decode cX10_end 0 = .ok (.iload_n 1, 1) := by decide +kernel
theorem dX10_end_1 : decode cX10_end 1 = .ok (.ifCond .lt 14, 3) := by decide +kernel
theorem dX10_end_4 : decode cX10_end 4 = .ok (.iload_n 1, 1) := by decide +kernel
theorem dX10_end_5 : decode cX10_end 5 = .ok (.aload_n 0, 1) := by decide +kernel
theorem dX10_end_6 : decode cX10_end 6 = .ok (.getfield 34, 3) := by decide +kernel
theorem dX10_end_9 : decode cX10_end 9 = .ok (.getfield 164, 3) := by decide +kernel
theorem dX10_end_12 : decode cX10_end 12 = .ok (.if_icmp .le 5, 3) := by decide +kernel
theorem dX10_end_15 : decode cX10_end 15 = .ok (.iconst 0, 1) := by decide +kernel
theorem dX10_end_16 : decode cX10_end 16 = .ok (.ireturn, 1) := by decide +kernel
theorem dX10_end_17 : decode cX10_end 17 = .ok (.aload_n 0, 1) := by decide +kernel
theorem dX10_end_18 : decode cX10_end 18 = .ok (.getfield 34, 3) := by decide +kernel
theorem dX10_end_21 : decode cX10_end 21 = .ok (.iload_n 1, 1) := by decide +kernel
theorem dX10_end_22 : decode cX10_end 22 = .ok (.putfield 164, 3) := by decide +kernel
theorem dX10_end_25 : decode cX10_end 25 = .ok (.iconst 1, 1) := by decide +kernel
theorem dX10_end_26 : decode cX10_end 26 = .ok (.ireturn, 1) := by decide +kernel
theorem dX10_text_0 : decode cX10_text 0 = .ok (.iload_n 1, 1) := by decide +kernel
theorem dX10_text_1 : decode cX10_text 1 = .ok (.ifCond .lt 8, 3) := by decide +kernel
theorem dX10_text_4 : decode cX10_text 4 = .ok (.iload_n 1, 1) := by decide +kernel
theorem dX10_text_5 : decode cX10_text 5 = .ok (.iconst 3, 1) := by decide +kernel
theorem dX10_text_6 : decode cX10_text 6 = .ok (.if_icmp .le 29, 3) := by decide +kernel
theorem dX10_text_9 : decode cX10_text 9 = .ok (.aload_n 0, 1) := by decide +kernel
theorem dX10_text_10 : decode cX10_text 10 = .ok (.getfield 34, 3) := by decide +kernel
theorem dX10_text_13 : decode cX10_text 13 = .ok (.iconst 0, 1) := by decide +kernel
theorem dX10_text_14 : decode cX10_text 14 = .ok (.putfield 164, 3) := by decide +kernel
theorem dX10_text_17 : decode cX10_text 17 = .ok (.aload_n 0, 1) := by decide +kernel
theorem dX10_text_18 : decode cX10_text 18 = .ok (.getfield 43, 3) := by decide +kernel
theorem dX10_text_21 : decode cX10_text 21 = .ok (.iconst 0, 1) := by decide +kernel
theorem dX10_text_22 : decode cX10_text 22 = .ok (.putfield 170, 3) := by decide +kernel
theorem dX10_text_25 : decode cX10_text 25 = .ok (.aload_n 0, 1) := by decide +kernel
theorem dX10_text_26 : decode cX10_text 26 = .ok (.getfield 43, 3) := by decide +kernel
theorem dX10_text_29 : decode cX10_text 29 = .ok (.iconst (-1), 1) := by decide +kernel
theorem dX10_text_30 : decode cX10_text 30 = .ok (.putfield 173, 3) := by decide +kernel
theorem dX10_text_33 : decode cX10_text 33 = .ok (.iconst (-1), 1) := by decide +kernel
theorem dX10_text_34 : decode cX10_text 34 = .ok (.ireturn, 1) := by decide +kernel
theorem dX10_text_35 : decode cX10_text 35 = .ok (.aload_n 0, 1) := by decide +kernel
theorem dX10_text_36 : decode cX10_text 36 = .ok (.getfield 34, 3) := by decide +kernel
theorem dX10_text_39 : decode cX10_text 39 = .ok (.invokevirtual 176, 3) := by decide +kernel
theorem dX10_text_42 : decode cX10_text 42 = .ok (.aload_n 0, 1) := by decide +kernel
theorem dX10_text_43 : decode cX10_text 43 = .ok (.getfield 34, 3) := by decide +kernel
theorem dX10_text_46 : decode cX10_text 46 = .ok (.iconst 0, 1) := by decide +kernel
theorem dX10_text_47 : decode cX10_text 47 = .ok (.putfield 164, 3) := by decide +kernel
theorem dX10_text_50 : decode cX10_text 50 = .ok (.aload_n 0, 1) := by decide +kernel
theorem dX10_text_51 : decode cX10_text 51 = .ok (.getfield 43, 3) := by decide +kernel
theorem dX10_text_54 : decode cX10_text 54 = .ok (.iload_n 1, 1) := by decide +kernel
theorem dX10_text_55 : decode cX10_text 55 = .ok (.invokevirtual 179, 3) := by decide +kernel
theorem dX10_text_58 : decode cX10_text 58 = .ok (.ifCond .ne 5, 3) := by decide +kernel
theorem dX10_text_61 : decode cX10_text 61 = .ok (.iconst (-1), 1) := by decide +kernel
theorem dX10_text_62 : decode cX10_text 62 = .ok (.ireturn, 1) := by decide +kernel
theorem dX10_text_63 : decode cX10_text 63 = .ok (.iload_n 1, 1) := by decide +kernel
theorem dX10_text_64 : decode cX10_text 64 = .ok (.iconst 1, 1) := by decide +kernel
theorem dX10_text_65 : decode cX10_text 65 = .ok (.if_icmp .eq 8, 3) := by decide +kernel
theorem dX10_text_68 : decode cX10_text 68 = .ok (.iload_n 1, 1) := by decide +kernel
theorem dX10_text_69 : decode cX10_text 69 = .ok (.iconst 2, 1) := by decide +kernel
theorem dX10_text_70 : decode cX10_text 70 = .ok (.if_icmp .ne 11, 3) := by decide +kernel
theorem dX10_text_73 : decode cX10_text 73 = .ok (.aload_n 0, 1) := by decide +kernel
theorem dX10_text_74 : decode cX10_text 74 = .ok (.getfield 27, 3) := by decide +kernel
theorem dX10_text_77 : decode cX10_text 77 = .ok (.iconst 0, 1) := by decide +kernel
theorem dX10_text_78 : decode cX10_text 78 = .ok (.putfield 72, 3) := by decide +kernel
theorem dX10_text_81 : decode cX10_text 81 = .ok (.aload_n 0, 1) := by decide +kernel
theorem dX10_text_82 : decode cX10_text 82 = .ok (.getfield 14, 3) := by decide +kernel
theorem dX10_text_85 : decode cX10_text 85 = .ok (.iload_n 1, 1) := by decide +kernel
theorem dX10_text_86 : decode cX10_text 86 = .ok (.aload_n 0, 1) := by decide +kernel
theorem dX10_text_87 : decode cX10_text 87 = .ok (.getfield 18, 3) := by decide +kernel
theorem dX10_text_90 : decode cX10_text 90 = .ok (.invokevirtual 182, 3) := by decide +kernel
theorem dX10_text_93 : decode cX10_text 93 = .ok (.ireturn, 1) := by decide +kernel
theorem dX10_fault_0 : decode cX10_fault 0 = .ok (.iload_n 1, 1) := by decide +kernel
theorem dX10_fault_1 : decode cX10_fault 1 = .ok (.ifCond .ne 11, 3) := by decide +kernel
theorem dX10_fault_4 : decode cX10_fault 4 = .ok (.aload_n 0, 1) := by decide +kernel
theorem dX10_fault_5 : decode cX10_fault 5 = .ok (.getfield 43, 3) := by decide +kernel
theorem dX10_fault_8 : decode cX10_fault 8 = .ok (.getfield 170, 3) := by decide +kernel
theorem dX10_fault_11 : decode cX10_fault 11 = .ok (.ireturn, 1) := by decide +kernel
theorem dX10_fault_12 : decode cX10_fault 12 = .ok (.iload_n 1, 1) := by decide +kernel
theorem dX10_fault_13 : decode cX10_fault 13 = .ok (.iconst 1, 1) := by decide +kernel
theorem dX10_fault_14 : decode cX10_fault 14 = .ok (.if_icmp .ne 13, 3) := by decide +kernel
theorem dX10_fault_17 : decode cX10_fault 17 = .ok (.aload_n 0, 1) := by decide +kernel
theorem dX10_fault_18 : decode cX10_fault 18 = .ok (.getfield 43, 3) := by decide +kernel
theorem dX10_fault_21 : decode cX10_fault 21 = .ok (.getfield 173, 3) := by decide +kernel
theorem dX10_fault_24 : decode cX10_fault 24 = .ok (.goto 4, 3) := by decide +kernel
theorem dX10_fault_27 : decode cX10_fault 27 = .ok (.iconst (-1), 1) := by decide +kernel
theorem dX10_fault_28 : decode cX10_fault 28 = .ok (.ireturn, 1) := by decide +kernel
theorem dX10_of_0 : decode cX10_of 0 = .ok (.aload_n 0, 1) := by decide +kernel
theorem dX10_of_1 : decode cX10_of 1 = .ok (.getfield 14, 3) := by decide +kernel
theorem dX10_of_4 : decode cX10_of 4 = .ok (.getfield 87, 3) := by decide +kernel
theorem dX10_of_7 : decode cX10_of 7 = .ok (.astore_n 3, 1) := by decide +kernel
theorem dX10_of_8 : decode cX10_of 8 = .ok (.aload_n 3, 1) := by decide +kernel
theorem dX10_of_9 : decode cX10_of 9 = .ok (.iload_n 1, 1) := by decide +kernel
theorem dX10_of_10 : decode cX10_of 10 = .ok (.invokevirtual 117, 3) := by decide +kernel
theorem dX10_of_13 : decode cX10_of 13 = .ok (.ifCond .ne 6, 3) := by decide +kernel
theorem dX10_of_16 : decode cX10_of 16 = .ok (.bipush (-2), 2) := by decide +kernel
theorem dX10_of_18 : decode cX10_of 18 = .ok (.ireturn, 1) := by decide +kernel
theorem dX10_of_19 : decode cX10_of 19 = .ok (.iload_n 2, 1) := by decide +kernel
theorem dX10_of_20 : decode cX10_of 20 = .ok (.tableswitch 82 0 5 #[40, 47, 54, 61, 68, 75], 40) := by decide +kernel
theorem dX10_of_60 : decode cX10_of 60 = .ok (.aload_n 3, 1) := by decide +kernel
theorem dX10_of_61 : decode cX10_of 61 = .ok (.getfield 186, 3) := by decide +kernel
theorem dX10_of_64 : decode cX10_of 64 = .ok (.iload_n 1, 1) := by decide +kernel
theorem dX10_of_65 : decode cX10_of 65 = .ok (.iaload, 1) := by decide +kernel
theorem dX10_of_66 : decode cX10_of 66 = .ok (.ireturn, 1) := by decide +kernel
theorem dX10_of_67 : decode cX10_of 67 = .ok (.aload_n 3, 1) := by decide +kernel
theorem dX10_of_68 : decode cX10_of 68 = .ok (.getfield 120, 3) := by decide +kernel
theorem dX10_of_71 : decode cX10_of 71 = .ok (.iload_n 1, 1) := by decide +kernel
theorem dX10_of_72 : decode cX10_of 72 = .ok (.iaload, 1) := by decide +kernel
theorem dX10_of_73 : decode cX10_of 73 = .ok (.ireturn, 1) := by decide +kernel
theorem dX10_of_74 : decode cX10_of 74 = .ok (.aload_n 3, 1) := by decide +kernel
theorem dX10_of_75 : decode cX10_of 75 = .ok (.getfield 123, 3) := by decide +kernel
theorem dX10_of_78 : decode cX10_of 78 = .ok (.iload_n 1, 1) := by decide +kernel
theorem dX10_of_79 : decode cX10_of 79 = .ok (.iaload, 1) := by decide +kernel
theorem dX10_of_80 : decode cX10_of 80 = .ok (.ireturn, 1) := by decide +kernel
theorem dX10_of_81 : decode cX10_of 81 = .ok (.aload_n 3, 1) := by decide +kernel
theorem dX10_of_82 : decode cX10_of 82 = .ok (.getfield 189, 3) := by decide +kernel
theorem dX10_of_85 : decode cX10_of 85 = .ok (.iload_n 1, 1) := by decide +kernel
theorem dX10_of_86 : decode cX10_of 86 = .ok (.iaload, 1) := by decide +kernel
theorem dX10_of_87 : decode cX10_of 87 = .ok (.ireturn, 1) := by decide +kernel
theorem dX10_of_88 : decode cX10_of 88 = .ok (.aload_n 3, 1) := by decide +kernel
theorem dX10_of_89 : decode cX10_of 89 = .ok (.getfield 144, 3) := by decide +kernel
theorem dX10_of_92 : decode cX10_of 92 = .ok (.iload_n 1, 1) := by decide +kernel
theorem dX10_of_93 : decode cX10_of 93 = .ok (.iaload, 1) := by decide +kernel
theorem dX10_of_94 : decode cX10_of 94 = .ok (.ireturn, 1) := by decide +kernel
theorem dX10_of_95 : decode cX10_of 95 = .ok (.aload_n 3, 1) := by decide +kernel
theorem dX10_of_96 : decode cX10_of 96 = .ok (.getfield 192, 3) := by decide +kernel
theorem dX10_of_99 : decode cX10_of 99 = .ok (.iload_n 1, 1) := by decide +kernel
theorem dX10_of_100 : decode cX10_of 100 = .ok (.iaload, 1) := by decide +kernel
theorem dX10_of_101 : decode cX10_of 101 = .ok (.ireturn, 1) := by decide +kernel
theorem dX10_of_102 : decode cX10_of 102 = .ok (.bipush (-2), 2) := by decide +kernel
theorem dX10_of_104 : decode cX10_of 104 = .ok (.ireturn, 1) := by decide +kernel
theorem dX10_match_0 : decode cX10_match 0 = .ok (.aload_n 0, 1) := by decide +kernel
theorem dX10_match_1 : decode cX10_match 1 = .ok (.getfield 14, 3) := by decide +kernel
theorem dX10_match_4 : decode cX10_match 4 = .ok (.getfield 87, 3) := by decide +kernel
theorem dX10_match_7 : decode cX10_match 7 = .ok (.iload_n 1, 1) := by decide +kernel
theorem dX10_match_8 : decode cX10_match 8 = .ok (.iload_n 2, 1) := by decide +kernel
theorem dX10_match_9 : decode cX10_match 9 = .ok (.invokevirtual 126, 3) := by decide +kernel
theorem dX10_match_12 : decode cX10_match 12 = .ok (.ifCond .ne 5, 3) := by decide +kernel
theorem dX10_match_15 : decode cX10_match 15 = .ok (.iconst (-1), 1) := by decide +kernel
theorem dX10_match_16 : decode cX10_match 16 = .ok (.ireturn, 1) := by decide +kernel
theorem dX10_match_17 : decode cX10_match 17 = .ok (.iload_n 3, 1) := by decide +kernel
theorem dX10_match_18 : decode cX10_match 18 = .ok (.ifCond .eq 15, 3) := by decide +kernel
theorem dX10_match_21 : decode cX10_match 21 = .ok (.aload_n 0, 1) := by decide +kernel
theorem dX10_match_22 : decode cX10_match 22 = .ok (.getfield 14, 3) := by decide +kernel
theorem dX10_match_25 : decode cX10_match 25 = .ok (.iload_n 1, 1) := by decide +kernel
theorem dX10_match_26 : decode cX10_match 26 = .ok (.iload_n 2, 1) := by decide +kernel
theorem dX10_match_27 : decode cX10_match 27 = .ok (.invokevirtual 195, 3) := by decide +kernel
theorem dX10_match_30 : decode cX10_match 30 = .ok (.goto 12, 3) := by decide +kernel
theorem dX10_match_33 : decode cX10_match 33 = .ok (.aload_n 0, 1) := by decide +kernel
theorem dX10_match_34 : decode cX10_match 34 = .ok (.getfield 14, 3) := by decide +kernel
theorem dX10_match_37 : decode cX10_match 37 = .ok (.iload_n 1, 1) := by decide +kernel
theorem dX10_match_38 : decode cX10_match 38 = .ok (.iload_n 2, 1) := by decide +kernel
theorem dX10_match_39 : decode cX10_match 39 = .ok (.invokevirtual 198, 3) := by decide +kernel
theorem dX10_match_42 : decode cX10_match 42 = .ok (.ireturn, 1) := by decide +kernel
theorem dX10_at_0 : decode cX10_at 0 = .ok (.aload_n 0, 1) := by decide +kernel
theorem dX10_at_1 : decode cX10_at 1 = .ok (.getfield 14, 3) := by decide +kernel
theorem dX10_at_4 : decode cX10_at 4 = .ok (.iload_n 1, 1) := by decide +kernel
theorem dX10_at_5 : decode cX10_at 5 = .ok (.invokevirtual 83, 3) := by decide +kernel
theorem dX10_at_8 : decode cX10_at 8 = .ok (.ifCond .ne 6, 3) := by decide +kernel
theorem dX10_at_11 : decode cX10_at 11 = .ok (.bipush (-2), 2) := by decide +kernel
theorem dX10_at_13 : decode cX10_at 13 = .ok (.ireturn, 1) := by decide +kernel
theorem dX10_at_14 : decode cX10_at 14 = .ok (.iload_n 2, 1) := by decide +kernel
theorem dX10_at_15 : decode cX10_at 15 = .ok (.ifCond .ne 13, 3) := by decide +kernel
theorem dX10_at_18 : decode cX10_at 18 = .ok (.aload_n 0, 1) := by decide +kernel
theorem dX10_at_19 : decode cX10_at 19 = .ok (.getfield 14, 3) := by decide +kernel
theorem dX10_at_22 : decode cX10_at 22 = .ok (.getfield 113, 3) := by decide +kernel
theorem dX10_at_25 : decode cX10_at 25 = .ok (.iload_n 1, 1) := by decide +kernel
theorem dX10_at_26 : decode cX10_at 26 = .ok (.iaload, 1) := by decide +kernel
theorem dX10_at_27 : decode cX10_at 27 = .ok (.ireturn, 1) := by decide +kernel
theorem dX10_at_28 : decode cX10_at 28 = .ok (.iload_n 2, 1) := by decide +kernel
theorem dX10_at_29 : decode cX10_at 29 = .ok (.iconst 1, 1) := by decide +kernel
theorem dX10_at_30 : decode cX10_at 30 = .ok (.if_icmp .ne 22, 3) := by decide +kernel
theorem dX10_at_33 : decode cX10_at 33 = .ok (.aload_n 0, 1) := by decide +kernel
theorem dX10_at_34 : decode cX10_at 34 = .ok (.getfield 14, 3) := by decide +kernel
theorem dX10_at_37 : decode cX10_at 37 = .ok (.aload_n 0, 1) := by decide +kernel
theorem dX10_at_38 : decode cX10_at 38 = .ok (.getfield 14, 3) := by decide +kernel
theorem dX10_at_41 : decode cX10_at 41 = .ok (.getfield 113, 3) := by decide +kernel
theorem dX10_at_44 : decode cX10_at 44 = .ok (.iload_n 1, 1) := by decide +kernel
theorem dX10_at_45 : decode cX10_at 45 = .ok (.iaload, 1) := by decide +kernel
theorem dX10_at_46 : decode cX10_at 46 = .ok (.invokevirtual 201, 3) := by decide +kernel
theorem dX10_at_49 : decode cX10_at 49 = .ok (.goto 5, 3) := by decide +kernel
theorem dX10_at_52 : decode cX10_at 52 = .ok (.bipush (-2), 2) := by decide +kernel
theorem dX10_at_54 : decode cX10_at 54 = .ok (.ireturn, 1) := by decide +kernel
theorem dX10_lift_0 : decode cX10_lift 0 = .ok (.aload_n 0, 1) := by decide +kernel
theorem dX10_lift_1 : decode cX10_lift 1 = .ok (.getfield 14, 3) := by decide +kernel
theorem dX10_lift_4 : decode cX10_lift 4 = .ok (.getfield 87, 3) := by decide +kernel
theorem dX10_lift_7 : decode cX10_lift 7 = .ok (.iload_n 1, 1) := by decide +kernel
theorem dX10_lift_8 : decode cX10_lift 8 = .ok (.iload_n 2, 1) := by decide +kernel
theorem dX10_lift_9 : decode cX10_lift 9 = .ok (.invokevirtual 126, 3) := by decide +kernel
theorem dX10_lift_12 : decode cX10_lift 12 = .ok (.ifCond .eq 26, 3) := by decide +kernel
theorem dX10_lift_15 : decode cX10_lift 15 = .ok (.aload_n 0, 1) := by decide +kernel
theorem dX10_lift_16 : decode cX10_lift 16 = .ok (.getfield 14, 3) := by decide +kernel
theorem dX10_lift_19 : decode cX10_lift 19 = .ok (.iload_n 3, 1) := by decide +kernel
theorem dX10_lift_20 : decode cX10_lift 20 = .ok (.invokevirtual 83, 3) := by decide +kernel
theorem dX10_lift_23 : decode cX10_lift 23 = .ok (.ifCond .eq 15, 3) := by decide +kernel
theorem dX10_lift_26 : decode cX10_lift 26 = .ok (.aload_n 0, 1) := by decide +kernel
theorem dX10_lift_27 : decode cX10_lift 27 = .ok (.getfield 14, 3) := by decide +kernel
theorem dX10_lift_30 : decode cX10_lift 30 = .ok (.iload 4, 2) := by decide +kernel
theorem dX10_lift_32 : decode cX10_lift 32 = .ok (.invokevirtual 83, 3) := by decide +kernel
theorem dX10_lift_35 : decode cX10_lift 35 = .ok (.ifCond .ne 5, 3) := by decide +kernel
theorem dX10_lift_38 : decode cX10_lift 38 = .ok (.iconst (-1), 1) := by decide +kernel
theorem dX10_lift_39 : decode cX10_lift 39 = .ok (.ireturn, 1) := by decide +kernel
theorem dX10_lift_40 : decode cX10_lift 40 = .ok (.aload_n 0, 1) := by decide +kernel
theorem dX10_lift_41 : decode cX10_lift 41 = .ok (.getfield 14, 3) := by decide +kernel
theorem dX10_lift_44 : decode cX10_lift 44 = .ok (.iload_n 1, 1) := by decide +kernel
theorem dX10_lift_45 : decode cX10_lift 45 = .ok (.iload_n 2, 1) := by decide +kernel
theorem dX10_lift_46 : decode cX10_lift 46 = .ok (.aload_n 0, 1) := by decide +kernel
theorem dX10_lift_47 : decode cX10_lift 47 = .ok (.getfield 14, 3) := by decide +kernel
theorem dX10_lift_50 : decode cX10_lift 50 = .ok (.iload_n 1, 1) := by decide +kernel
theorem dX10_lift_51 : decode cX10_lift 51 = .ok (.iload_n 2, 1) := by decide +kernel
theorem dX10_lift_52 : decode cX10_lift 52 = .ok (.invokevirtual 195, 3) := by decide +kernel
theorem dX10_lift_55 : decode cX10_lift 55 = .ok (.iload_n 3, 1) := by decide +kernel
theorem dX10_lift_56 : decode cX10_lift 56 = .ok (.iload 4, 2) := by decide +kernel
theorem dX10_lift_58 : decode cX10_lift 58 = .ok (.invokestatic 205, 3) := by decide +kernel
theorem dX10_lift_61 : decode cX10_lift 61 = .ok (.aload_n 0, 1) := by decide +kernel
theorem dX10_lift_62 : decode cX10_lift 62 = .ok (.getfield 14, 3) := by decide +kernel
theorem dX10_lift_65 : decode cX10_lift 65 = .ok (.getfield 113, 3) := by decide +kernel
theorem dX10_lift_68 : decode cX10_lift 68 = .ok (.iload 4, 2) := by decide +kernel
theorem dX10_lift_70 : decode cX10_lift 70 = .ok (.iaload, 1) := by decide +kernel
theorem dX10_lift_71 : decode cX10_lift 71 = .ok (.invokevirtual 208, 3) := by decide +kernel
theorem dX10_lift_74 : decode cX10_lift 74 = .ok (.ireturn, 1) := by decide +kernel
theorem dX10_weather_0 : decode cX10_weather 0 = .ok (.iload_n 1, 1) := by decide +kernel
theorem dX10_weather_1 : decode cX10_weather 1 = .ok (.sipush 9999, 3) := by decide +kernel
theorem dX10_weather_4 : decode cX10_weather 4 = .ok (.invokestatic 79, 3) := by decide +kernel
theorem dX10_weather_7 : decode cX10_weather 7 = .ok (.ifCond .eq 14, 3) := by decide +kernel
theorem dX10_weather_10 : decode cX10_weather 10 = .ok (.aload_n 0, 1) := by decide +kernel
theorem dX10_weather_11 : decode cX10_weather 11 = .ok (.getfield 14, 3) := by decide +kernel
theorem dX10_weather_14 : decode cX10_weather 14 = .ok (.iload_n 1, 1) := by decide +kernel
theorem dX10_weather_15 : decode cX10_weather 15 = .ok (.invokevirtual 212, 3) := by decide +kernel
theorem dX10_weather_18 : decode cX10_weather 18 = .ok (.goto 4, 3) := by decide +kernel
theorem dX10_weather_21 : decode cX10_weather 21 = .ok (.iconst (-1), 1) := by decide +kernel
theorem dX10_weather_22 : decode cX10_weather 22 = .ok (.ireturn, 1) := by decide +kernel
theorem dX10_book_0 : decode cX10_book 0 = .ok (.iload_n 1, 1) := by decide +kernel
theorem dX10_book_1 : decode cX10_book 1 = .ok (.ifCond .lt 26, 3) := by decide +kernel
theorem dX10_book_4 : decode cX10_book 4 = .ok (.iload_n 1, 1) := by decide +kernel
theorem dX10_book_5 : decode cX10_book 5 = .ok (.aload_n 0, 1) := by decide +kernel
theorem dX10_book_6 : decode cX10_book 6 = .ok (.getfield 14, 3) := by decide +kernel
theorem dX10_book_9 : decode cX10_book 9 = .ok (.getfield 215, 3) := by decide +kernel
theorem dX10_book_12 : decode cX10_book 12 = .ok (.getfield 219, 3) := by decide +kernel
theorem dX10_book_15 : decode cX10_book 15 = .ok (.if_icmp .ge 12, 3) := by decide +kernel
theorem dX10_book_18 : decode cX10_book 18 = .ok (.iload_n 2, 1) := by decide +kernel
theorem dX10_book_19 : decode cX10_book 19 = .ok (.ifCond .lt 8, 3) := by decide +kernel
theorem dX10_book_22 : decode cX10_book 22 = .ok (.iload_n 2, 1) := by decide +kernel
theorem dX10_book_23 : decode cX10_book 23 = .ok (.iconst 3, 1) := by decide +kernel
theorem dX10_book_24 : decode cX10_book 24 = .ok (.if_icmp .le 5, 3) := by decide +kernel
theorem dX10_book_27 : decode cX10_book 27 = .ok (.iconst (-1), 1) := by decide +kernel
theorem dX10_book_28 : decode cX10_book 28 = .ok (.ireturn, 1) := by decide +kernel
theorem dX10_book_29 : decode cX10_book 29 = .ok (.aload_n 0, 1) := by decide +kernel
theorem dX10_book_30 : decode cX10_book 30 = .ok (.getfield 14, 3) := by decide +kernel
theorem dX10_book_33 : decode cX10_book 33 = .ok (.getfield 215, 3) := by decide +kernel
theorem dX10_book_36 : decode cX10_book 36 = .ok (.iload_n 1, 1) := by decide +kernel
theorem dX10_book_37 : decode cX10_book 37 = .ok (.iload_n 2, 1) := by decide +kernel
theorem dX10_book_38 : decode cX10_book 38 = .ok (.invokevirtual 222, 3) := by decide +kernel
theorem dX10_book_41 : decode cX10_book 41 = .ok (.ireturn, 1) := by decide +kernel
theorem dX10_lies_0 : decode cX10_lies 0 = .ok (.aload_n 0, 1) := by decide +kernel
theorem dX10_lies_1 : decode cX10_lies 1 = .ok (.getfield 14, 3) := by decide +kernel
theorem dX10_lies_4 : decode cX10_lies 4 = .ok (.iload_n 1, 1) := by decide +kernel
theorem dX10_lies_5 : decode cX10_lies 5 = .ok (.invokevirtual 83, 3) := by decide +kernel
theorem dX10_lies_8 : decode cX10_lies 8 = .ok (.ifCond .eq 12, 3) := by decide +kernel
theorem dX10_lies_11 : decode cX10_lies 11 = .ok (.iload_n 2, 1) := by decide +kernel
theorem dX10_lies_12 : decode cX10_lies 12 = .ok (.bipush 60, 2) := by decide +kernel
theorem dX10_lies_14 : decode cX10_lies 14 = .ok (.invokestatic 79, 3) := by decide +kernel
theorem dX10_lies_17 : decode cX10_lies 17 = .ok (.ifCond .ne 5, 3) := by decide +kernel
theorem dX10_lies_20 : decode cX10_lies 20 = .ok (.iconst (-1), 1) := by decide +kernel
theorem dX10_lies_21 : decode cX10_lies 21 = .ok (.ireturn, 1) := by decide +kernel
theorem dX10_lies_22 : decode cX10_lies 22 = .ok (.aload_n 0, 1) := by decide +kernel
theorem dX10_lies_23 : decode cX10_lies 23 = .ok (.invokevirtual 225, 3) := by decide +kernel
theorem dX10_lies_26 : decode cX10_lies 26 = .ok (.iconst 0, 1) := by decide +kernel
theorem dX10_lies_27 : decode cX10_lies 27 = .ok (.istore_n 3, 1) := by decide +kernel
theorem dX10_lies_28 : decode cX10_lies 28 = .ok (.iload_n 3, 1) := by decide +kernel
theorem dX10_lies_29 : decode cX10_lies 29 = .ok (.iload_n 2, 1) := by decide +kernel
theorem dX10_lies_30 : decode cX10_lies 30 = .ok (.if_icmp .ge 17, 3) := by decide +kernel
theorem dX10_lies_33 : decode cX10_lies 33 = .ok (.aload_n 0, 1) := by decide +kernel
theorem dX10_lies_34 : decode cX10_lies 34 = .ok (.getfield 18, 3) := by decide +kernel
theorem dX10_lies_37 : decode cX10_lies 37 = .ok (.invokevirtual 160, 3) := by decide +kernel
theorem dX10_lies_40 : decode cX10_lies 40 = .ok (.pop, 1) := by decide +kernel
theorem dX10_lies_41 : decode cX10_lies 41 = .ok (.iinc 3 1, 3) := by decide +kernel
theorem dX10_lies_44 : decode cX10_lies 44 = .ok (.goto (-16), 3) := by decide +kernel
theorem dX10_lies_47 : decode cX10_lies 47 = .ok (.aload_n 0, 1) := by decide +kernel
theorem dX10_lies_48 : decode cX10_lies 48 = .ok (.getfield 18, 3) := by decide +kernel
theorem dX10_lies_51 : decode cX10_lies 51 = .ok (.getfield 113, 3) := by decide +kernel
theorem dX10_lies_54 : decode cX10_lies 54 = .ok (.iload_n 1, 1) := by decide +kernel
theorem dX10_lies_55 : decode cX10_lies 55 = .ok (.iaload, 1) := by decide +kernel
theorem dX10_lies_56 : decode cX10_lies 56 = .ok (.ireturn, 1) := by decide +kernel
theorem dX10_meets_0 : decode cX10_meets 0 = .ok (.iload_n 1, 1) := by decide +kernel
theorem dX10_meets_1 : decode cX10_meets 1 = .ok (.iconst 2, 1) := by decide +kernel
theorem dX10_meets_2 : decode cX10_meets 2 = .ok (.if_icmp .ne 11, 3) := by decide +kernel
theorem dX10_meets_5 : decode cX10_meets 5 = .ok (.aload_n 0, 1) := by decide +kernel
theorem dX10_meets_6 : decode cX10_meets 6 = .ok (.getfield 14, 3) := by decide +kernel
theorem dX10_meets_9 : decode cX10_meets 9 = .ok (.invokevirtual 228, 3) := by decide +kernel
theorem dX10_meets_12 : decode cX10_meets 12 = .ok (.ireturn, 1) := by decide +kernel
theorem dX10_meets_13 : decode cX10_meets 13 = .ok (.iload_n 1, 1) := by decide +kernel
theorem dX10_meets_14 : decode cX10_meets 14 = .ok (.ifCond .eq 10, 3) := by decide +kernel
theorem dX10_meets_17 : decode cX10_meets 17 = .ok (.iload_n 1, 1) := by decide +kernel
theorem dX10_meets_18 : decode cX10_meets 18 = .ok (.iconst 1, 1) := by decide +kernel
theorem dX10_meets_19 : decode cX10_meets 19 = .ok (.if_icmp .eq 5, 3) := by decide +kernel
theorem dX10_meets_22 : decode cX10_meets 22 = .ok (.iconst (-1), 1) := by decide +kernel
theorem dX10_meets_23 : decode cX10_meets 23 = .ok (.ireturn, 1) := by decide +kernel
theorem dX10_meets_24 : decode cX10_meets 24 = .ok (.aload_n 0, 1) := by decide +kernel
theorem dX10_meets_25 : decode cX10_meets 25 = .ok (.invokevirtual 225, 3) := by decide +kernel
theorem dX10_meets_28 : decode cX10_meets 28 = .ok (.aload_n 0, 1) := by decide +kernel
theorem dX10_meets_29 : decode cX10_meets 29 = .ok (.getfield 14, 3) := by decide +kernel
theorem dX10_meets_32 : decode cX10_meets 32 = .ok (.getfield 231, 3) := by decide +kernel
theorem dX10_meets_35 : decode cX10_meets 35 = .ok (.iconst 1, 1) := by decide +kernel
theorem dX10_meets_36 : decode cX10_meets 36 = .ok (.invokevirtual 234, 3) := by decide +kernel
theorem dX10_meets_39 : decode cX10_meets 39 = .ok (.istore_n 2, 1) := by decide +kernel
theorem dX10_meets_40 : decode cX10_meets 40 = .ok (.iconst 0, 1) := by decide +kernel
theorem dX10_meets_41 : decode cX10_meets 41 = .ok (.istore_n 3, 1) := by decide +kernel
theorem dX10_meets_42 : decode cX10_meets 42 = .ok (.aload_n 0, 1) := by decide +kernel
theorem dX10_meets_43 : decode cX10_meets 43 = .ok (.getfield 14, 3) := by decide +kernel
theorem dX10_meets_46 : decode cX10_meets 46 = .ok (.getfield 157, 3) := by decide +kernel
theorem dX10_meets_49 : decode cX10_meets 49 = .ok (.istore 4, 2) := by decide +kernel
theorem dX10_meets_51 : decode cX10_meets 51 = .ok (.iload 4, 2) := by decide +kernel
theorem dX10_meets_53 : decode cX10_meets 53 = .ok (.iload_n 2, 1) := by decide +kernel
theorem dX10_meets_54 : decode cX10_meets 54 = .ok (.if_icmp .gt 54, 3) := by decide +kernel
theorem dX10_meets_57 : decode cX10_meets 57 = .ok (.aload_n 0, 1) := by decide +kernel
theorem dX10_meets_58 : decode cX10_meets 58 = .ok (.getfield 18, 3) := by decide +kernel
theorem dX10_meets_61 : decode cX10_meets 61 = .ok (.invokevirtual 160, 3) := by decide +kernel
theorem dX10_meets_64 : decode cX10_meets 64 = .ok (.pop, 1) := by decide +kernel
theorem dX10_meets_65 : decode cX10_meets 65 = .ok (.aload_n 0, 1) := by decide +kernel
theorem dX10_meets_66 : decode cX10_meets 66 = .ok (.getfield 18, 3) := by decide +kernel
theorem dX10_meets_69 : decode cX10_meets 69 = .ok (.iload 4, 2) := by decide +kernel
theorem dX10_meets_71 : decode cX10_meets 71 = .ok (.invokevirtual 237, 3) := by decide +kernel
theorem dX10_meets_74 : decode cX10_meets 74 = .ok (.istore 5, 2) := by decide +kernel
theorem dX10_meets_76 : decode cX10_meets 76 = .ok (.iload_n 1, 1) := by decide +kernel
theorem dX10_meets_77 : decode cX10_meets 77 = .ok (.iconst 1, 1) := by decide +kernel
theorem dX10_meets_78 : decode cX10_meets 78 = .ok (.if_icmp .ne 12, 3) := by decide +kernel
theorem dX10_meets_81 : decode cX10_meets 81 = .ok (.iload 5, 2) := by decide +kernel
theorem dX10_meets_83 : decode cX10_meets 83 = .ok (.iconst (-1), 1) := by decide +kernel
theorem dX10_meets_84 : decode cX10_meets 84 = .ok (.if_icmp .eq 6, 3) := by decide +kernel
theorem dX10_meets_87 : decode cX10_meets 87 = .ok (.iload 5, 2) := by decide +kernel
theorem dX10_meets_89 : decode cX10_meets 89 = .ok (.ireturn, 1) := by decide +kernel
theorem dX10_meets_90 : decode cX10_meets 90 = .ok (.iload_n 3, 1) := by decide +kernel
theorem dX10_meets_91 : decode cX10_meets 91 = .ok (.aload_n 0, 1) := by decide +kernel
theorem dX10_meets_92 : decode cX10_meets 92 = .ok (.getfield 18, 3) := by decide +kernel
theorem dX10_meets_95 : decode cX10_meets 95 = .ok (.iload 4, 2) := by decide +kernel
theorem dX10_meets_97 : decode cX10_meets 97 = .ok (.invokevirtual 240, 3) := by decide +kernel
theorem dX10_meets_100 : decode cX10_meets 100 = .ok (.iadd, 1) := by decide +kernel
theorem dX10_meets_101 : decode cX10_meets 101 = .ok (.istore_n 3, 1) := by decide +kernel
theorem dX10_meets_102 : decode cX10_meets 102 = .ok (.iinc 4 1, 3) := by decide +kernel
theorem dX10_meets_105 : decode cX10_meets 105 = .ok (.goto (-54), 3) := by decide +kernel
theorem dX10_meets_108 : decode cX10_meets 108 = .ok (.iload_n 1, 1) := by decide +kernel
theorem dX10_meets_109 : decode cX10_meets 109 = .ok (.ifCond .ne 7, 3) := by decide +kernel
theorem dX10_meets_112 : decode cX10_meets 112 = .ok (.iload_n 3, 1) := by decide +kernel
theorem dX10_meets_113 : decode cX10_meets 113 = .ok (.goto 4, 3) := by decide +kernel
theorem dX10_meets_116 : decode cX10_meets 116 = .ok (.iconst (-1), 1) := by decide +kernel
theorem dX10_meets_117 : decode cX10_meets 117 = .ok (.ireturn, 1) := by decide +kernel
theorem dX10_stable_0 : decode cX10_stable 0 = .ok (.aload_n 0, 1) := by decide +kernel
theorem dX10_stable_1 : decode cX10_stable 1 = .ok (.getfield 14, 3) := by decide +kernel
theorem dX10_stable_4 : decode cX10_stable 4 = .ok (.getfield 87, 3) := by decide +kernel
theorem dX10_stable_7 : decode cX10_stable 7 = .ok (.iload_n 1, 1) := by decide +kernel
theorem dX10_stable_8 : decode cX10_stable 8 = .ok (.invokevirtual 243, 3) := by decide +kernel
theorem dX10_stable_11 : decode cX10_stable 11 = .ok (.ifCond .ne 5, 3) := by decide +kernel
theorem dX10_stable_14 : decode cX10_stable 14 = .ok (.iconst (-1), 1) := by decide +kernel
theorem dX10_stable_15 : decode cX10_stable 15 = .ok (.ireturn, 1) := by decide +kernel
theorem dX10_stable_16 : decode cX10_stable 16 = .ok (.aload_n 0, 1) := by decide +kernel
theorem dX10_stable_17 : decode cX10_stable 17 = .ok (.getfield 50, 3) := by decide +kernel
theorem dX10_stable_20 : decode cX10_stable 20 = .ok (.aload_n 0, 1) := by decide +kernel
theorem dX10_stable_21 : decode cX10_stable 21 = .ok (.getfield 14, 3) := by decide +kernel
theorem dX10_stable_24 : decode cX10_stable 24 = .ok (.invokevirtual 246, 3) := by decide +kernel
theorem dX10_stable_27 : decode cX10_stable 27 = .ok (.aload_n 0, 1) := by decide +kernel
theorem dX10_stable_28 : decode cX10_stable 28 = .ok (.getfield 50, 3) := by decide +kernel
theorem dX10_stable_31 : decode cX10_stable 31 = .ok (.getfield 249, 3) := by decide +kernel
theorem dX10_stable_34 : decode cX10_stable 34 = .ok (.iload_n 1, 1) := by decide +kernel
theorem dX10_stable_35 : decode cX10_stable 35 = .ok (.iaload, 1) := by decide +kernel
theorem dX10_stable_36 : decode cX10_stable 36 = .ok (.ireturn, 1) := by decide +kernel
theorem dX10_best_0 : decode cX10_best 0 = .ok (.iload_n 1, 1) := by decide +kernel
theorem dX10_best_1 : decode cX10_best 1 = .ok (.ifCond .ne 15, 3) := by decide +kernel
theorem dX10_best_4 : decode cX10_best 4 = .ok (.aload_n 0, 1) := by decide +kernel
theorem dX10_best_5 : decode cX10_best 5 = .ok (.getfield 50, 3) := by decide +kernel
theorem dX10_best_8 : decode cX10_best 8 = .ok (.aload_n 0, 1) := by decide +kernel
theorem dX10_best_9 : decode cX10_best 9 = .ok (.getfield 14, 3) := by decide +kernel
theorem dX10_best_12 : decode cX10_best 12 = .ok (.invokevirtual 251, 3) := by decide +kernel
theorem dX10_best_15 : decode cX10_best 15 = .ok (.ireturn, 1) := by decide +kernel
theorem dX10_best_16 : decode cX10_best 16 = .ok (.iload_n 1, 1) := by decide +kernel
theorem dX10_best_17 : decode cX10_best 17 = .ok (.bipush 10, 2) := by decide +kernel
theorem dX10_best_19 : decode cX10_best 19 = .ok (.if_icmp .ge 7, 3) := by decide +kernel
theorem dX10_best_22 : decode cX10_best 22 = .ok (.iconst (-1), 1) := by decide +kernel
theorem dX10_best_23 : decode cX10_best 23 = .ok (.goto 7, 3) := by decide +kernel
theorem dX10_best_26 : decode cX10_best 26 = .ok (.iload_n 1, 1) := by decide +kernel
theorem dX10_best_27 : decode cX10_best 27 = .ok (.bipush 10, 2) := by decide +kernel
theorem dX10_best_29 : decode cX10_best 29 = .ok (.isub, 1) := by decide +kernel
theorem dX10_best_30 : decode cX10_best 30 = .ok (.istore_n 2, 1) := by decide +kernel
theorem dX10_best_31 : decode cX10_best 31 = .ok (.aload_n 0, 1) := by decide +kernel
theorem dX10_best_32 : decode cX10_best 32 = .ok (.getfield 14, 3) := by decide +kernel
theorem dX10_best_35 : decode cX10_best 35 = .ok (.getfield 87, 3) := by decide +kernel
theorem dX10_best_38 : decode cX10_best 38 = .ok (.iload_n 2, 1) := by decide +kernel
theorem dX10_best_39 : decode cX10_best 39 = .ok (.invokevirtual 243, 3) := by decide +kernel
theorem dX10_best_42 : decode cX10_best 42 = .ok (.ifCond .ne 5, 3) := by decide +kernel
theorem dX10_best_45 : decode cX10_best 45 = .ok (.iconst (-1), 1) := by decide +kernel
theorem dX10_best_46 : decode cX10_best 46 = .ok (.ireturn, 1) := by decide +kernel
theorem dX10_best_47 : decode cX10_best 47 = .ok (.aload_n 0, 1) := by decide +kernel
theorem dX10_best_48 : decode cX10_best 48 = .ok (.getfield 50, 3) := by decide +kernel
theorem dX10_best_51 : decode cX10_best 51 = .ok (.aload_n 0, 1) := by decide +kernel
theorem dX10_best_52 : decode cX10_best 52 = .ok (.getfield 14, 3) := by decide +kernel
theorem dX10_best_55 : decode cX10_best 55 = .ok (.invokevirtual 251, 3) := by decide +kernel
theorem dX10_best_58 : decode cX10_best 58 = .ok (.pop, 1) := by decide +kernel
theorem dX10_best_59 : decode cX10_best 59 = .ok (.aload_n 0, 1) := by decide +kernel
theorem dX10_best_60 : decode cX10_best 60 = .ok (.getfield 50, 3) := by decide +kernel
theorem dX10_best_63 : decode cX10_best 63 = .ok (.getfield 249, 3) := by decide +kernel
theorem dX10_best_66 : decode cX10_best 66 = .ok (.iload_n 2, 1) := by decide +kernel
theorem dX10_best_67 : decode cX10_best 67 = .ok (.iaload, 1) := by decide +kernel
theorem dX10_best_68 : decode cX10_best 68 = .ok (.ireturn, 1) := by decide +kernel
theorem dX10_bares_0 : decode cX10_bares 0 = .ok (.aload_n 0, 1) := by decide +kernel
theorem dX10_bares_1 : decode cX10_bares 1 = .ok (.getfield 14, 3) := by decide +kernel
theorem dX10_bares_4 : decode cX10_bares 4 = .ok (.iload_n 1, 1) := by decide +kernel
theorem dX10_bares_5 : decode cX10_bares 5 = .ok (.invokevirtual 83, 3) := by decide +kernel
theorem dX10_bares_8 : decode cX10_bares 8 = .ok (.ifCond .eq 11, 3) := by decide +kernel
theorem dX10_bares_11 : decode cX10_bares 11 = .ok (.iload_n 2, 1) := by decide +kernel
theorem dX10_bares_12 : decode cX10_bares 12 = .ok (.iconst 2, 1) := by decide +kernel
theorem dX10_bares_13 : decode cX10_bares 13 = .ok (.invokestatic 79, 3) := by decide +kernel
theorem dX10_bares_16 : decode cX10_bares 16 = .ok (.ifCond .ne 5, 3) := by decide +kernel
theorem dX10_bares_19 : decode cX10_bares 19 = .ok (.iconst (-1), 1) := by decide +kernel
theorem dX10_bares_20 : decode cX10_bares 20 = .ok (.ireturn, 1) := by decide +kernel
theorem dX10_bares_21 : decode cX10_bares 21 = .ok (.aload_n 0, 1) := by decide +kernel
theorem dX10_bares_22 : decode cX10_bares 22 = .ok (.getfield 50, 3) := by decide +kernel
theorem dX10_bares_25 : decode cX10_bares 25 = .ok (.aload_n 0, 1) := by decide +kernel
theorem dX10_bares_26 : decode cX10_bares 26 = .ok (.getfield 14, 3) := by decide +kernel
theorem dX10_bares_29 : decode cX10_bares 29 = .ok (.iload_n 1, 1) := by decide +kernel
theorem dX10_bares_30 : decode cX10_bares 30 = .ok (.invokevirtual 255, 3) := by decide +kernel
theorem dX10_bares_33 : decode cX10_bares 33 = .ok (.istore_n 3, 1) := by decide +kernel
theorem dX10_bares_34 : decode cX10_bares 34 = .ok (.iload_n 3, 1) := by decide +kernel
theorem dX10_bares_35 : decode cX10_bares 35 = .ok (.iconst (-1), 1) := by decide +kernel
theorem dX10_bares_36 : decode cX10_bares 36 = .ok (.if_icmp .ne 5, 3) := by decide +kernel
theorem dX10_bares_39 : decode cX10_bares 39 = .ok (.iconst (-1), 1) := by decide +kernel
theorem dX10_bares_40 : decode cX10_bares 40 = .ok (.ireturn, 1) := by decide +kernel
theorem dX10_bares_41 : decode cX10_bares 41 = .ok (.iload_n 2, 1) := by decide +kernel
theorem dX10_bares_42 : decode cX10_bares 42 = .ok (.iconst 2, 1) := by decide +kernel
theorem dX10_bares_43 : decode cX10_bares 43 = .ok (.if_icmp .ne 8, 3) := by decide +kernel
theorem dX10_bares_46 : decode cX10_bares 46 = .ok (.iload_n 3, 1) := by decide +kernel
theorem dX10_bares_47 : decode cX10_bares 47 = .ok (.bipush 56, 2) := by decide +kernel
theorem dX10_bares_49 : decode cX10_bares 49 = .ok (.irem, 1) := by decide +kernel
theorem dX10_bares_50 : decode cX10_bares 50 = .ok (.ireturn, 1) := by decide +kernel
theorem dX10_bares_51 : decode cX10_bares 51 = .ok (.iload_n 3, 1) := by decide +kernel
theorem dX10_bares_52 : decode cX10_bares 52 = .ok (.bipush 56, 2) := by decide +kernel
theorem dX10_bares_54 : decode cX10_bares 54 = .ok (.idiv, 1) := by decide +kernel
theorem dX10_bares_55 : decode cX10_bares 55 = .ok (.istore 4, 2) := by decide +kernel
theorem dX10_bares_57 : decode cX10_bares 57 = .ok (.iload_n 2, 1) := by decide +kernel
theorem dX10_bares_58 : decode cX10_bares 58 = .ok (.ifCond .ne 11, 3) := by decide +kernel
theorem dX10_bares_61 : decode cX10_bares 61 = .ok (.iload 4, 2) := by decide +kernel
theorem dX10_bares_63 : decode cX10_bares 63 = .ok (.bipush 12, 2) := by decide +kernel
theorem dX10_bares_65 : decode cX10_bares 65 = .ok (.idiv, 1) := by decide +kernel
theorem dX10_bares_66 : decode cX10_bares 66 = .ok (.goto 8, 3) := by decide +kernel
theorem dX10_bares_69 : decode cX10_bares 69 = .ok (.iload 4, 2) := by decide +kernel
theorem dX10_bares_71 : decode cX10_bares 71 = .ok (.bipush 12, 2) := by decide +kernel
theorem dX10_bares_73 : decode cX10_bares 73 = .ok (.irem, 1) := by decide +kernel
theorem dX10_bares_74 : decode cX10_bares 74 = .ok (.ireturn, 1) := by decide +kernel
theorem dX10_stir_0 : decode cX10_stir 0 = .ok (.iload_n 1, 1) := by decide +kernel
theorem dX10_stir_1 : decode cX10_stir 1 = .ok (.iconst (-1), 1) := by decide +kernel
theorem dX10_stir_2 : decode cX10_stir 2 = .ok (.if_icmp .ne 16, 3) := by decide +kernel
theorem dX10_stir_5 : decode cX10_stir 5 = .ok (.aload_n 0, 1) := by decide +kernel
theorem dX10_stir_6 : decode cX10_stir 6 = .ok (.getfield 14, 3) := by decide +kernel
theorem dX10_stir_9 : decode cX10_stir 9 = .ok (.getfield 259, 3) := by decide +kernel
theorem dX10_stir_12 : decode cX10_stir 12 = .ok (.iconst 0, 1) := by decide +kernel
theorem dX10_stir_13 : decode cX10_stir 13 = .ok (.putfield 219, 3) := by decide +kernel
theorem dX10_stir_16 : decode cX10_stir 16 = .ok (.iconst 0, 1) := by decide +kernel
theorem dX10_stir_17 : decode cX10_stir 17 = .ok (.ireturn, 1) := by decide +kernel
theorem dX10_stir_18 : decode cX10_stir 18 = .ok (.aload_n 0, 1) := by decide +kernel
theorem dX10_stir_19 : decode cX10_stir 19 = .ok (.getfield 14, 3) := by decide +kernel
theorem dX10_stir_22 : decode cX10_stir 22 = .ok (.getfield 87, 3) := by decide +kernel
theorem dX10_stir_25 : decode cX10_stir 25 = .ok (.iload_n 1, 1) := by decide +kernel
theorem dX10_stir_26 : decode cX10_stir 26 = .ok (.invokevirtual 117, 3) := by decide +kernel
theorem dX10_stir_29 : decode cX10_stir 29 = .ok (.ifCond .eq 12, 3) := by decide +kernel
theorem dX10_stir_32 : decode cX10_stir 32 = .ok (.iload_n 2, 1) := by decide +kernel
theorem dX10_stir_33 : decode cX10_stir 33 = .ok (.bipush 9, 2) := by decide +kernel
theorem dX10_stir_35 : decode cX10_stir 35 = .ok (.invokestatic 79, 3) := by decide +kernel
theorem dX10_stir_38 : decode cX10_stir 38 = .ok (.ifCond .ne 5, 3) := by decide +kernel
theorem dX10_stir_41 : decode cX10_stir 41 = .ok (.iconst (-1), 1) := by decide +kernel
theorem dX10_stir_42 : decode cX10_stir 42 = .ok (.ireturn, 1) := by decide +kernel
theorem dX10_stir_43 : decode cX10_stir 43 = .ok (.aload_n 0, 1) := by decide +kernel
theorem dX10_stir_44 : decode cX10_stir 44 = .ok (.getfield 14, 3) := by decide +kernel
theorem dX10_stir_47 : decode cX10_stir 47 = .ok (.getfield 259, 3) := by decide +kernel
theorem dX10_stir_50 : decode cX10_stir 50 = .ok (.iload_n 1, 1) := by decide +kernel
theorem dX10_stir_51 : decode cX10_stir 51 = .ok (.iload_n 2, 1) := by decide +kernel
theorem dX10_stir_52 : decode cX10_stir 52 = .ok (.iload_n 3, 1) := by decide +kernel
theorem dX10_stir_53 : decode cX10_stir 53 = .ok (.ifCond .eq 7, 3) := by decide +kernel
theorem dX10_stir_56 : decode cX10_stir 56 = .ok (.iconst 1, 1) := by decide +kernel
theorem dX10_stir_57 : decode cX10_stir 57 = .ok (.goto 4, 3) := by decide +kernel
theorem dX10_stir_60 : decode cX10_stir 60 = .ok (.iconst 0, 1) := by decide +kernel
theorem dX10_stir_61 : decode cX10_stir 61 = .ok (.iconst 0, 1) := by decide +kernel
theorem dX10_stir_62 : decode cX10_stir 62 = .ok (.invokevirtual 262, 3) := by decide +kernel
theorem dX10_stir_65 : decode cX10_stir 65 = .ok (.ifCond .eq 16, 3) := by decide +kernel
theorem dX10_stir_68 : decode cX10_stir 68 = .ok (.aload_n 0, 1) := by decide +kernel
theorem dX10_stir_69 : decode cX10_stir 69 = .ok (.getfield 14, 3) := by decide +kernel
theorem dX10_stir_72 : decode cX10_stir 72 = .ok (.getfield 259, 3) := by decide +kernel
theorem dX10_stir_75 : decode cX10_stir 75 = .ok (.getfield 219, 3) := by decide +kernel
theorem dX10_stir_78 : decode cX10_stir 78 = .ok (.goto 4, 3) := by decide +kernel
theorem dX10_stir_81 : decode cX10_stir 81 = .ok (.iconst (-1), 1) := by decide +kernel
theorem dX10_stir_82 : decode cX10_stir 82 = .ok (.ireturn, 1) := by decide +kernel
theorem dX10_who_0 : decode cX10_who 0 = .ok (.aload_n 0, 1) := by decide +kernel
theorem dX10_who_1 : decode cX10_who 1 = .ok (.getfield 14, 3) := by decide +kernel
theorem dX10_who_4 : decode cX10_who 4 = .ok (.getfield 87, 3) := by decide +kernel
theorem dX10_who_7 : decode cX10_who 7 = .ok (.iload_n 1, 1) := by decide +kernel
theorem dX10_who_8 : decode cX10_who 8 = .ok (.invokevirtual 117, 3) := by decide +kernel
theorem dX10_who_11 : decode cX10_who 11 = .ok (.ifCond .eq 14, 3) := by decide +kernel
theorem dX10_who_14 : decode cX10_who 14 = .ok (.aload_n 0, 1) := by decide +kernel
theorem dX10_who_15 : decode cX10_who 15 = .ok (.getfield 14, 3) := by decide +kernel
theorem dX10_who_18 : decode cX10_who 18 = .ok (.iload_n 1, 1) := by decide +kernel
theorem dX10_who_19 : decode cX10_who 19 = .ok (.invokevirtual 265, 3) := by decide +kernel
theorem dX10_who_22 : decode cX10_who 22 = .ok (.goto 4, 3) := by decide +kernel
theorem dX10_who_25 : decode cX10_who 25 = .ok (.iconst (-1), 1) := by decide +kernel
theorem dX10_who_26 : decode cX10_who 26 = .ok (.ireturn, 1) := by decide +kernel
theorem dX10_ask_0 : decode cX10_ask 0 = .ok (.aload_n 0, 1) := by decide +kernel
theorem dX10_ask_1 : decode cX10_ask 1 = .ok (.getfield 14, 3) := by decide +kernel
theorem dX10_ask_4 : decode cX10_ask 4 = .ok (.getfield 87, 3) := by decide +kernel
theorem dX10_ask_7 : decode cX10_ask 7 = .ok (.iload_n 1, 1) := by decide +kernel
theorem dX10_ask_8 : decode cX10_ask 8 = .ok (.invokevirtual 117, 3) := by decide +kernel
theorem dX10_ask_11 : decode cX10_ask 11 = .ok (.ifCond .ne 5, 3) := by decide +kernel
theorem dX10_ask_14 : decode cX10_ask 14 = .ok (.iconst (-1), 1) := by decide +kernel
theorem dX10_ask_15 : decode cX10_ask 15 = .ok (.ireturn, 1) := by decide +kernel
theorem dX10_ask_16 : decode cX10_ask 16 = .ok (.aload_n 0, 1) := by decide +kernel
theorem dX10_ask_17 : decode cX10_ask 17 = .ok (.getfield 14, 3) := by decide +kernel
theorem dX10_ask_20 : decode cX10_ask 20 = .ok (.iload_n 1, 1) := by decide +kernel
theorem dX10_ask_21 : decode cX10_ask 21 = .ok (.invokevirtual 265, 3) := by decide +kernel
theorem dX10_ask_24 : decode cX10_ask 24 = .ok (.istore_n 2, 1) := by decide +kernel
theorem dX10_ask_25 : decode cX10_ask 25 = .ok (.iload_n 2, 1) := by decide +kernel
theorem dX10_ask_26 : decode cX10_ask 26 = .ok (.invokestatic 268, 3) := by decide +kernel
theorem dX10_ask_29 : decode cX10_ask 29 = .ok (.iconst 2, 1) := by decide +kernel
theorem dX10_ask_30 : decode cX10_ask 30 = .ok (.if_icmp .ge 7, 3) := by decide +kernel
theorem dX10_ask_33 : decode cX10_ask 33 = .ok (.iconst (-1), 1) := by decide +kernel
theorem dX10_ask_34 : decode cX10_ask 34 = .ok (.goto 16, 3) := by decide +kernel
theorem dX10_ask_37 : decode cX10_ask 37 = .ok (.aload_n 0, 1) := by decide +kernel
theorem dX10_ask_38 : decode cX10_ask 38 = .ok (.getfield 50, 3) := by decide +kernel
theorem dX10_ask_41 : decode cX10_ask 41 = .ok (.aload_n 0, 1) := by decide +kernel
theorem dX10_ask_42 : decode cX10_ask 42 = .ok (.getfield 14, 3) := by decide +kernel
theorem dX10_ask_45 : decode cX10_ask 45 = .ok (.iload_n 1, 1) := by decide +kernel
theorem dX10_ask_46 : decode cX10_ask 46 = .ok (.iload_n 2, 1) := by decide +kernel
theorem dX10_ask_47 : decode cX10_ask 47 = .ok (.invokevirtual 273, 3) := by decide +kernel
theorem dX10_ask_50 : decode cX10_ask 50 = .ok (.ireturn, 1) := by decide +kernel
theorem dX10_fans_0 : decode cX10_fans 0 = .ok (.iload_n 1, 1) := by decide +kernel
theorem dX10_fans_1 : decode cX10_fans 1 = .ok (.bipush 99, 2) := by decide +kernel
theorem dX10_fans_3 : decode cX10_fans 3 = .ok (.invokestatic 79, 3) := by decide +kernel
theorem dX10_fans_6 : decode cX10_fans 6 = .ok (.ifCond .eq 13, 3) := by decide +kernel
theorem dX10_fans_9 : decode cX10_fans 9 = .ok (.iload_n 2, 1) := by decide +kernel
theorem dX10_fans_10 : decode cX10_fans 10 = .ok (.sipush 1000, 3) := by decide +kernel
theorem dX10_fans_13 : decode cX10_fans 13 = .ok (.invokestatic 79, 3) := by decide +kernel
theorem dX10_fans_16 : decode cX10_fans 16 = .ok (.ifCond .ne 5, 3) := by decide +kernel
theorem dX10_fans_19 : decode cX10_fans 19 = .ok (.iconst (-1), 1) := by decide +kernel
theorem dX10_fans_20 : decode cX10_fans 20 = .ok (.ireturn, 1) := by decide +kernel
theorem dX10_fans_21 : decode cX10_fans 21 = .ok (.iload_n 2, 1) := by decide +kernel
theorem dX10_fans_22 : decode cX10_fans 22 = .ok (.i2l, 1) := by decide +kernel
theorem dX10_fans_23 : decode cX10_fans 23 = .ok (.iload_n 1, 1) := by decide +kernel
theorem dX10_fans_24 : decode cX10_fans 24 = .ok (.iconst 1, 1) := by decide +kernel
theorem dX10_fans_25 : decode cX10_fans 25 = .ok (.iadd, 1) := by decide +kernel
theorem dX10_fans_26 : decode cX10_fans 26 = .ok (.i2l, 1) := by decide +kernel
theorem dX10_fans_27 : decode cX10_fans 27 = .ok (.lmul, 1) := by decide +kernel
theorem dX10_fans_28 : decode cX10_fans 28 = .ok (.lstore_n 3, 1) := by decide +kernel
theorem dX10_fans_29 : decode cX10_fans 29 = .ok (.lload_n 3, 1) := by decide +kernel
theorem dX10_fans_30 : decode cX10_fans 30 = .ok (.ldc2_w 277, 3) := by decide +kernel
theorem dX10_fans_33 : decode cX10_fans 33 = .ok (.iload_n 2, 1) := by decide +kernel
theorem dX10_fans_34 : decode cX10_fans 34 = .ok (.i2l, 1) := by decide +kernel
theorem dX10_fans_35 : decode cX10_fans 35 = .ok (.lsub, 1) := by decide +kernel
theorem dX10_fans_36 : decode cX10_fans 36 = .ok (.bipush 100, 2) := by decide +kernel
theorem dX10_fans_38 : decode cX10_fans 38 = .ok (.iload_n 1, 1) := by decide +kernel
theorem dX10_fans_39 : decode cX10_fans 39 = .ok (.isub, 1) := by decide +kernel
theorem dX10_fans_40 : decode cX10_fans 40 = .ok (.i2l, 1) := by decide +kernel
theorem dX10_fans_41 : decode cX10_fans 41 = .ok (.lmul, 1) := by decide +kernel
theorem dX10_fans_42 : decode cX10_fans 42 = .ok (.ladd, 1) := by decide +kernel
theorem dX10_fans_43 : decode cX10_fans 43 = .ok (.lstore 5, 2) := by decide +kernel
theorem dX10_fans_45 : decode cX10_fans 45 = .ok (.lload 5, 2) := by decide +kernel
theorem dX10_fans_47 : decode cX10_fans 47 = .ok (.lconst 0, 1) := by decide +kernel
theorem dX10_fans_48 : decode cX10_fans 48 = .ok (.lcmp, 1) := by decide +kernel
theorem dX10_fans_49 : decode cX10_fans 49 = .ok (.ifCond .gt 7, 3) := by decide +kernel
theorem dX10_fans_52 : decode cX10_fans 52 = .ok (.iconst (-1), 1) := by decide +kernel
theorem dX10_fans_53 : decode cX10_fans 53 = .ok (.goto 12, 3) := by decide +kernel
theorem dX10_fans_56 : decode cX10_fans 56 = .ok (.ldc2_w 279, 3) := by decide +kernel
theorem dX10_fans_59 : decode cX10_fans 59 = .ok (.lload_n 3, 1) := by decide +kernel
theorem dX10_fans_60 : decode cX10_fans 60 = .ok (.lmul, 1) := by decide +kernel
theorem dX10_fans_61 : decode cX10_fans 61 = .ok (.lload 5, 2) := by decide +kernel
theorem dX10_fans_63 : decode cX10_fans 63 = .ok (.ldiv, 1) := by decide +kernel
theorem dX10_fans_64 : decode cX10_fans 64 = .ok (.l2i, 1) := by decide +kernel
theorem dX10_fans_65 : decode cX10_fans 65 = .ok (.ireturn, 1) := by decide +kernel
theorem dX10_safe_0 : decode cX10_safe 0 = .ok (.aload_n 0, 1) := by decide +kernel
theorem dX10_safe_1 : decode cX10_safe 1 = .ok (.getfield 14, 3) := by decide +kernel
theorem dX10_safe_4 : decode cX10_safe 4 = .ok (.iload_n 1, 1) := by decide +kernel
theorem dX10_safe_5 : decode cX10_safe 5 = .ok (.invokevirtual 83, 3) := by decide +kernel
theorem dX10_safe_8 : decode cX10_safe 8 = .ok (.ifCond .eq 30, 3) := by decide +kernel
theorem dX10_safe_11 : decode cX10_safe 11 = .ok (.aload_n 0, 1) := by decide +kernel
theorem dX10_safe_12 : decode cX10_safe 12 = .ok (.getfield 14, 3) := by decide +kernel
theorem dX10_safe_15 : decode cX10_safe 15 = .ok (.iload_n 2, 1) := by decide +kernel
theorem dX10_safe_16 : decode cX10_safe 16 = .ok (.invokevirtual 83, 3) := by decide +kernel
theorem dX10_safe_19 : decode cX10_safe 19 = .ok (.ifCond .eq 19, 3) := by decide +kernel
theorem dX10_safe_22 : decode cX10_safe 22 = .ok (.aload_n 0, 1) := by decide +kernel
theorem dX10_safe_23 : decode cX10_safe 23 = .ok (.getfield 57, 3) := by decide +kernel
theorem dX10_safe_26 : decode cX10_safe 26 = .ok (.aload_n 0, 1) := by decide +kernel
theorem dX10_safe_27 : decode cX10_safe 27 = .ok (.getfield 14, 3) := by decide +kernel
theorem dX10_safe_30 : decode cX10_safe 30 = .ok (.iload_n 1, 1) := by decide +kernel
theorem dX10_safe_31 : decode cX10_safe 31 = .ok (.iload_n 2, 1) := by decide +kernel
theorem dX10_safe_32 : decode cX10_safe 32 = .ok (.invokevirtual 281, 3) := by decide +kernel
theorem dX10_safe_35 : decode cX10_safe 35 = .ok (.goto 4, 3) := by decide +kernel
theorem dX10_safe_38 : decode cX10_safe 38 = .ok (.iconst (-1), 1) := by decide +kernel
theorem dX10_safe_39 : decode cX10_safe 39 = .ok (.ireturn, 1) := by decide +kernel
theorem dX10_cut_0 : decode cX10_cut 0 = .ok (.aload_n 0, 1) := by decide +kernel
theorem dX10_cut_1 : decode cX10_cut 1 = .ok (.getfield 14, 3) := by decide +kernel
theorem dX10_cut_4 : decode cX10_cut 4 = .ok (.iload_n 1, 1) := by decide +kernel
theorem dX10_cut_5 : decode cX10_cut 5 = .ok (.invokevirtual 83, 3) := by decide +kernel
theorem dX10_cut_8 : decode cX10_cut 8 = .ok (.ifCond .eq 45, 3) := by decide +kernel
theorem dX10_cut_11 : decode cX10_cut 11 = .ok (.aload_n 0, 1) := by decide +kernel
theorem dX10_cut_12 : decode cX10_cut 12 = .ok (.getfield 14, 3) := by decide +kernel
theorem dX10_cut_15 : decode cX10_cut 15 = .ok (.iload_n 2, 1) := by decide +kernel
theorem dX10_cut_16 : decode cX10_cut 16 = .ok (.invokevirtual 83, 3) := by decide +kernel
theorem dX10_cut_19 : decode cX10_cut 19 = .ok (.ifCond .eq 34, 3) := by decide +kernel
theorem dX10_cut_22 : decode cX10_cut 22 = .ok (.iload_n 1, 1) := by decide +kernel
theorem dX10_cut_23 : decode cX10_cut 23 = .ok (.iload_n 2, 1) := by decide +kernel
theorem dX10_cut_24 : decode cX10_cut 24 = .ok (.invokestatic 205, 3) := by decide +kernel
theorem dX10_cut_27 : decode cX10_cut 27 = .ok (.iconst 2, 1) := by decide +kernel
theorem dX10_cut_28 : decode cX10_cut 28 = .ok (.if_icmp .lt 25, 3) := by decide +kernel
theorem dX10_cut_31 : decode cX10_cut 31 = .ok (.aload_n 0, 1) := by decide +kernel
theorem dX10_cut_32 : decode cX10_cut 32 = .ok (.getfield 14, 3) := by decide +kernel
theorem dX10_cut_35 : decode cX10_cut 35 = .ok (.iload_n 1, 1) := by decide +kernel
theorem dX10_cut_36 : decode cX10_cut 36 = .ok (.invokevirtual 284, 3) := by decide +kernel
theorem dX10_cut_39 : decode cX10_cut 39 = .ok (.ifCond .ne 14, 3) := by decide +kernel
theorem dX10_cut_42 : decode cX10_cut 42 = .ok (.aload_n 0, 1) := by decide +kernel
theorem dX10_cut_43 : decode cX10_cut 43 = .ok (.getfield 14, 3) := by decide +kernel
theorem dX10_cut_46 : decode cX10_cut 46 = .ok (.iload_n 2, 1) := by decide +kernel
theorem dX10_cut_47 : decode cX10_cut 47 = .ok (.invokevirtual 284, 3) := by decide +kernel
theorem dX10_cut_50 : decode cX10_cut 50 = .ok (.ifCond .eq 5, 3) := by decide +kernel
theorem dX10_cut_53 : decode cX10_cut 53 = .ok (.iconst (-1), 1) := by decide +kernel
theorem dX10_cut_54 : decode cX10_cut 54 = .ok (.ireturn, 1) := by decide +kernel
theorem dX10_cut_55 : decode cX10_cut 55 = .ok (.aload_n 0, 1) := by decide +kernel
theorem dX10_cut_56 : decode cX10_cut 56 = .ok (.getfield 57, 3) := by decide +kernel
theorem dX10_cut_59 : decode cX10_cut 59 = .ok (.aload_n 0, 1) := by decide +kernel
theorem dX10_cut_60 : decode cX10_cut 60 = .ok (.getfield 14, 3) := by decide +kernel
theorem dX10_cut_63 : decode cX10_cut 63 = .ok (.iload_n 1, 1) := by decide +kernel
theorem dX10_cut_64 : decode cX10_cut 64 = .ok (.iload_n 2, 1) := by decide +kernel
theorem dX10_cut_65 : decode cX10_cut 65 = .ok (.invokevirtual 287, 3) := by decide +kernel
theorem dX10_cut_68 : decode cX10_cut 68 = .ok (.ireturn, 1) := by decide +kernel
theorem dX10_rounds_0 : decode cX10_rounds 0 = .ok (.aload_n 0, 1) := by decide +kernel
theorem dX10_rounds_1 : decode cX10_rounds 1 = .ok (.getfield 64, 3) := by decide +kernel
theorem dX10_rounds_4 : decode cX10_rounds 4 = .ok (.aload_n 0, 1) := by decide +kernel
theorem dX10_rounds_5 : decode cX10_rounds 5 = .ok (.getfield 14, 3) := by decide +kernel
theorem dX10_rounds_8 : decode cX10_rounds 8 = .ok (.invokevirtual 290, 3) := by decide +kernel
theorem dX10_rounds_11 : decode cX10_rounds 11 = .ok (.iload_n 1, 1) := by decide +kernel
theorem dX10_rounds_12 : decode cX10_rounds 12 = .ok (.ifCond .ne 11, 3) := by decide +kernel
theorem dX10_rounds_15 : decode cX10_rounds 15 = .ok (.aload_n 0, 1) := by decide +kernel
theorem dX10_rounds_16 : decode cX10_rounds 16 = .ok (.getfield 64, 3) := by decide +kernel
theorem dX10_rounds_19 : decode cX10_rounds 19 = .ok (.getfield 293, 3) := by decide +kernel
theorem dX10_rounds_22 : decode cX10_rounds 22 = .ok (.ireturn, 1) := by decide +kernel
theorem dX10_rounds_23 : decode cX10_rounds 23 = .ok (.iload_n 1, 1) := by decide +kernel
theorem dX10_rounds_24 : decode cX10_rounds 24 = .ok (.bipush 10, 2) := by decide +kernel
theorem dX10_rounds_26 : decode cX10_rounds 26 = .ok (.if_icmp .lt 34, 3) := by decide +kernel
theorem dX10_rounds_29 : decode cX10_rounds 29 = .ok (.iload_n 1, 1) := by decide +kernel
theorem dX10_rounds_30 : decode cX10_rounds 30 = .ok (.bipush 10, 2) := by decide +kernel
theorem dX10_rounds_32 : decode cX10_rounds 32 = .ok (.isub, 1) := by decide +kernel
theorem dX10_rounds_33 : decode cX10_rounds 33 = .ok (.aload_n 0, 1) := by decide +kernel
theorem dX10_rounds_34 : decode cX10_rounds 34 = .ok (.getfield 14, 3) := by decide +kernel
theorem dX10_rounds_37 : decode cX10_rounds 37 = .ok (.getfield 296, 3) := by decide +kernel
theorem dX10_rounds_40 : decode cX10_rounds 40 = .ok (.getfield 219, 3) := by decide +kernel
theorem dX10_rounds_43 : decode cX10_rounds 43 = .ok (.if_icmp .ge 17, 3) := by decide +kernel
theorem dX10_rounds_46 : decode cX10_rounds 46 = .ok (.aload_n 0, 1) := by decide +kernel
theorem dX10_rounds_47 : decode cX10_rounds 47 = .ok (.getfield 64, 3) := by decide +kernel
theorem dX10_rounds_50 : decode cX10_rounds 50 = .ok (.iload_n 1, 1) := by decide +kernel
theorem dX10_rounds_51 : decode cX10_rounds 51 = .ok (.bipush 10, 2) := by decide +kernel
theorem dX10_rounds_53 : decode cX10_rounds 53 = .ok (.isub, 1) := by decide +kernel
theorem dX10_rounds_54 : decode cX10_rounds 54 = .ok (.invokevirtual 299, 3) := by decide +kernel
theorem dX10_rounds_57 : decode cX10_rounds 57 = .ok (.goto 4, 3) := by decide +kernel
theorem dX10_rounds_60 : decode cX10_rounds 60 = .ok (.iconst (-1), 1) := by decide +kernel
theorem dX10_rounds_61 : decode cX10_rounds 61 = .ok (.ireturn, 1) := by decide +kernel
theorem dX10_comes_0 : decode cX10_comes 0 = .ok (.aload_n 0, 1) := by decide +kernel
theorem dX10_comes_1 : decode cX10_comes 1 = .ok (.getfield 14, 3) := by decide +kernel
theorem dX10_comes_4 : decode cX10_comes 4 = .ok (.getfield 87, 3) := by decide +kernel
theorem dX10_comes_7 : decode cX10_comes 7 = .ok (.astore_n 3, 1) := by decide +kernel
theorem dX10_comes_8 : decode cX10_comes 8 = .ok (.aload_n 3, 1) := by decide +kernel
theorem dX10_comes_9 : decode cX10_comes 9 = .ok (.iload_n 1, 1) := by decide +kernel
theorem dX10_comes_10 : decode cX10_comes 10 = .ok (.iload_n 2, 1) := by decide +kernel
theorem dX10_comes_11 : decode cX10_comes 11 = .ok (.invokevirtual 126, 3) := by decide +kernel
theorem dX10_comes_14 : decode cX10_comes 14 = .ok (.ifCond .eq 18, 3) := by decide +kernel
theorem dX10_comes_17 : decode cX10_comes 17 = .ok (.aload_n 3, 1) := by decide +kernel
theorem dX10_comes_18 : decode cX10_comes 18 = .ok (.getfield 186, 3) := by decide +kernel
theorem dX10_comes_21 : decode cX10_comes 21 = .ok (.iload_n 1, 1) := by decide +kernel
theorem dX10_comes_22 : decode cX10_comes 22 = .ok (.iaload, 1) := by decide +kernel
theorem dX10_comes_23 : decode cX10_comes 23 = .ok (.aload_n 3, 1) := by decide +kernel
theorem dX10_comes_24 : decode cX10_comes 24 = .ok (.getfield 186, 3) := by decide +kernel
theorem dX10_comes_27 : decode cX10_comes 27 = .ok (.iload_n 2, 1) := by decide +kernel
theorem dX10_comes_28 : decode cX10_comes 28 = .ok (.iaload, 1) := by decide +kernel
theorem dX10_comes_29 : decode cX10_comes 29 = .ok (.if_icmp .ne 5, 3) := by decide +kernel
theorem dX10_comes_32 : decode cX10_comes 32 = .ok (.iconst (-1), 1) := by decide +kernel
theorem dX10_comes_33 : decode cX10_comes 33 = .ok (.ireturn, 1) := by decide +kernel
theorem dX10_comes_34 : decode cX10_comes 34 = .ok (.aload_n 3, 1) := by decide +kernel
theorem dX10_comes_35 : decode cX10_comes 35 = .ok (.getfield 120, 3) := by decide +kernel
theorem dX10_comes_38 : decode cX10_comes 38 = .ok (.iload_n 1, 1) := by decide +kernel
theorem dX10_comes_39 : decode cX10_comes 39 = .ok (.iaload, 1) := by decide +kernel
theorem dX10_comes_40 : decode cX10_comes 40 = .ok (.istore 4, 2) := by decide +kernel
theorem dX10_comes_42 : decode cX10_comes 42 = .ok (.aload_n 3, 1) := by decide +kernel
theorem dX10_comes_43 : decode cX10_comes 43 = .ok (.getfield 120, 3) := by decide +kernel
theorem dX10_comes_46 : decode cX10_comes 46 = .ok (.iload_n 2, 1) := by decide +kernel
theorem dX10_comes_47 : decode cX10_comes 47 = .ok (.iaload, 1) := by decide +kernel
theorem dX10_comes_48 : decode cX10_comes 48 = .ok (.istore 5, 2) := by decide +kernel
theorem dX10_comes_50 : decode cX10_comes 50 = .ok (.iconst 0, 1) := by decide +kernel
theorem dX10_comes_51 : decode cX10_comes 51 = .ok (.istore 6, 2) := by decide +kernel
theorem dX10_comes_53 : decode cX10_comes 53 = .ok (.iload 6, 2) := by decide +kernel
theorem dX10_comes_55 : decode cX10_comes 55 = .ok (.bipush 20, 2) := by decide +kernel
theorem dX10_comes_57 : decode cX10_comes 57 = .ok (.if_icmp .gt 86, 3) := by decide +kernel
theorem dX10_comes_60 : decode cX10_comes 60 = .ok (.aload_n 0, 1) := by decide +kernel
theorem dX10_comes_61 : decode cX10_comes 61 = .ok (.getfield 14, 3) := by decide +kernel
theorem dX10_comes_64 : decode cX10_comes 64 = .ok (.iload_n 1, 1) := by decide +kernel
theorem dX10_comes_65 : decode cX10_comes 65 = .ok (.iload_n 2, 1) := by decide +kernel
theorem dX10_comes_66 : decode cX10_comes 66 = .ok (.iload 4, 2) := by decide +kernel
theorem dX10_comes_68 : decode cX10_comes 68 = .ok (.iload 5, 2) := by decide +kernel
theorem dX10_comes_70 : decode cX10_comes 70 = .ok (.invokevirtual 302, 3) := by decide +kernel
theorem dX10_comes_73 : decode cX10_comes 73 = .ok (.aload_n 0, 1) := by decide +kernel
theorem dX10_comes_74 : decode cX10_comes 74 = .ok (.getfield 14, 3) := by decide +kernel
theorem dX10_comes_77 : decode cX10_comes 77 = .ok (.iload_n 2, 1) := by decide +kernel
theorem dX10_comes_78 : decode cX10_comes 78 = .ok (.iload_n 1, 1) := by decide +kernel
theorem dX10_comes_79 : decode cX10_comes 79 = .ok (.iload 5, 2) := by decide +kernel
theorem dX10_comes_81 : decode cX10_comes 81 = .ok (.iload 4, 2) := by decide +kernel
theorem dX10_comes_83 : decode cX10_comes 83 = .ok (.invokevirtual 302, 3) := by decide +kernel
theorem dX10_comes_86 : decode cX10_comes 86 = .ok (.invokestatic 147, 3) := by decide +kernel
theorem dX10_comes_89 : decode cX10_comes 89 = .ok (.bipush 6, 2) := by decide +kernel
theorem dX10_comes_91 : decode cX10_comes 91 = .ok (.if_icmp .lt 6, 3) := by decide +kernel
theorem dX10_comes_94 : decode cX10_comes 94 = .ok (.iload 6, 2) := by decide +kernel
theorem dX10_comes_96 : decode cX10_comes 96 = .ok (.ireturn, 1) := by decide +kernel
theorem dX10_comes_97 : decode cX10_comes 97 = .ok (.iload 4, 2) := by decide +kernel
theorem dX10_comes_99 : decode cX10_comes 99 = .ok (.iload 5, 2) := by decide +kernel
theorem dX10_comes_101 : decode cX10_comes 101 = .ok (.isub, 1) := by decide +kernel
theorem dX10_comes_102 : decode cX10_comes 102 = .ok (.invokestatic 305, 3) := by decide +kernel
theorem dX10_comes_105 : decode cX10_comes 105 = .ok (.iconst 1, 1) := by decide +kernel
theorem dX10_comes_106 : decode cX10_comes 106 = .ok (.if_icmp .le 31, 3) := by decide +kernel
theorem dX10_comes_109 : decode cX10_comes 109 = .ok (.iload 4, 2) := by decide +kernel
theorem dX10_comes_111 : decode cX10_comes 111 = .ok (.iload 5, 2) := by decide +kernel
theorem dX10_comes_113 : decode cX10_comes 113 = .ok (.if_icmp .le 7, 3) := by decide +kernel
theorem dX10_comes_116 : decode cX10_comes 116 = .ok (.iconst (-1), 1) := by decide +kernel
theorem dX10_comes_117 : decode cX10_comes 117 = .ok (.goto 4, 3) := by decide +kernel
theorem dX10_comes_120 : decode cX10_comes 120 = .ok (.iconst 1, 1) := by decide +kernel
theorem dX10_comes_121 : decode cX10_comes 121 = .ok (.istore 7, 2) := by decide +kernel
theorem dX10_comes_123 : decode cX10_comes 123 = .ok (.iload 4, 2) := by decide +kernel
theorem dX10_comes_125 : decode cX10_comes 125 = .ok (.iload 7, 2) := by decide +kernel
theorem dX10_comes_127 : decode cX10_comes 127 = .ok (.iadd, 1) := by decide +kernel
theorem dX10_comes_128 : decode cX10_comes 128 = .ok (.istore 4, 2) := by decide +kernel
theorem dX10_comes_130 : decode cX10_comes 130 = .ok (.iload 5, 2) := by decide +kernel
theorem dX10_comes_132 : decode cX10_comes 132 = .ok (.iload 7, 2) := by decide +kernel
theorem dX10_comes_134 : decode cX10_comes 134 = .ok (.isub, 1) := by decide +kernel
theorem dX10_comes_135 : decode cX10_comes 135 = .ok (.istore 5, 2) := by decide +kernel
theorem dX10_comes_137 : decode cX10_comes 137 = .ok (.iinc 6 1, 3) := by decide +kernel
theorem dX10_comes_140 : decode cX10_comes 140 = .ok (.goto (-87), 3) := by decide +kernel
theorem dX10_comes_143 : decode cX10_comes 143 = .ok (.iconst (-1), 1) := by decide +kernel
theorem dX10_comes_144 : decode cX10_comes 144 = .ok (.ireturn, 1) := by decide +kernel
theorem dX10_asks_0 : decode cX10_asks 0 = .ok (.aload_n 0, 1) := by decide +kernel
theorem dX10_asks_1 : decode cX10_asks 1 = .ok (.getfield 14, 3) := by decide +kernel
theorem dX10_asks_4 : decode cX10_asks 4 = .ok (.getfield 308, 3) := by decide +kernel
theorem dX10_asks_7 : decode cX10_asks 7 = .ok (.bipush 10, 2) := by decide +kernel
theorem dX10_asks_9 : decode cX10_asks 9 = .ok (.invokestatic 311, 3) := by decide +kernel
theorem dX10_asks_12 : decode cX10_asks 12 = .ok (.istore_n 1, 1) := by decide +kernel
theorem dX10_asks_13 : decode cX10_asks 13 = .ok (.aload_n 0, 1) := by decide +kernel
theorem dX10_asks_14 : decode cX10_asks 14 = .ok (.getfield 14, 3) := by decide +kernel
theorem dX10_asks_17 : decode cX10_asks 17 = .ok (.invokevirtual 314, 3) := by decide +kernel
theorem dX10_asks_20 : decode cX10_asks 20 = .ok (.istore_n 2, 1) := by decide +kernel
theorem dX10_asks_21 : decode cX10_asks 21 = .ok (.iload_n 1, 1) := by decide +kernel
theorem dX10_asks_22 : decode cX10_asks 22 = .ok (.iload_n 2, 1) := by decide +kernel
theorem dX10_asks_23 : decode cX10_asks 23 = .ok (.if_icmp .le 7, 3) := by decide +kernel
theorem dX10_asks_26 : decode cX10_asks 26 = .ok (.iconst (-1), 1) := by decide +kernel
theorem dX10_asks_27 : decode cX10_asks 27 = .ok (.goto 10, 3) := by decide +kernel
theorem dX10_asks_30 : decode cX10_asks 30 = .ok (.iload_n 1, 1) := by decide +kernel
theorem dX10_asks_31 : decode cX10_asks 31 = .ok (.iload_n 2, 1) := by decide +kernel
theorem dX10_asks_32 : decode cX10_asks 32 = .ok (.iadd, 1) := by decide +kernel
theorem dX10_asks_33 : decode cX10_asks 33 = .ok (.iconst 2, 1) := by decide +kernel
theorem dX10_asks_34 : decode cX10_asks 34 = .ok (.invokestatic 311, 3) := by decide +kernel
theorem dX10_asks_37 : decode cX10_asks 37 = .ok (.ireturn, 1) := by decide +kernel
theorem dX10_tribe_0 : decode cX10_tribe 0 = .ok (.aload_n 0, 1) := by decide +kernel
theorem dX10_tribe_1 : decode cX10_tribe 1 = .ok (.getfield 14, 3) := by decide +kernel
theorem dX10_tribe_4 : decode cX10_tribe 4 = .ok (.getfield 87, 3) := by decide +kernel
theorem dX10_tribe_7 : decode cX10_tribe 7 = .ok (.iload_n 1, 1) := by decide +kernel
theorem dX10_tribe_8 : decode cX10_tribe 8 = .ok (.invokevirtual 117, 3) := by decide +kernel
theorem dX10_tribe_11 : decode cX10_tribe 11 = .ok (.ifCond .eq 17, 3) := by decide +kernel
theorem dX10_tribe_14 : decode cX10_tribe 14 = .ok (.aload_n 0, 1) := by decide +kernel
theorem dX10_tribe_15 : decode cX10_tribe 15 = .ok (.getfield 14, 3) := by decide +kernel
theorem dX10_tribe_18 : decode cX10_tribe 18 = .ok (.getfield 87, 3) := by decide +kernel
theorem dX10_tribe_21 : decode cX10_tribe 21 = .ok (.iload_n 1, 1) := by decide +kernel
theorem dX10_tribe_22 : decode cX10_tribe 22 = .ok (.invokevirtual 317, 3) := by decide +kernel
theorem dX10_tribe_25 : decode cX10_tribe 25 = .ok (.goto 4, 3) := by decide +kernel
theorem dX10_tribe_28 : decode cX10_tribe 28 = .ok (.iconst (-1), 1) := by decide +kernel
theorem dX10_tribe_29 : decode cX10_tribe 29 = .ok (.ireturn, 1) := by decide +kernel
theorem dX10_hopes_0 : decode cX10_hopes 0 = .ok (.iload_n 1, 1) := by decide +kernel
theorem dX10_hopes_1 : decode cX10_hopes 1 = .ok (.ifCond .eq 10, 3) := by decide +kernel
theorem dX10_hopes_4 : decode cX10_hopes 4 = .ok (.iload_n 1, 1) := by decide +kernel
theorem dX10_hopes_5 : decode cX10_hopes 5 = .ok (.iconst 1, 1) := by decide +kernel
theorem dX10_hopes_6 : decode cX10_hopes 6 = .ok (.if_icmp .eq 5, 3) := by decide +kernel
theorem dX10_hopes_9 : decode cX10_hopes 9 = .ok (.iconst (-1), 1) := by decide +kernel
theorem dX10_hopes_10 : decode cX10_hopes 10 = .ok (.ireturn, 1) := by decide +kernel
theorem dX10_hopes_11 : decode cX10_hopes 11 = .ok (.aload_n 0, 1) := by decide +kernel
theorem dX10_hopes_12 : decode cX10_hopes 12 = .ok (.getfield 14, 3) := by decide +kernel
theorem dX10_hopes_15 : decode cX10_hopes 15 = .ok (.getfield 87, 3) := by decide +kernel
theorem dX10_hopes_18 : decode cX10_hopes 18 = .ok (.iconst 1, 1) := by decide +kernel
theorem dX10_hopes_19 : decode cX10_hopes 19 = .ok (.aload_n 0, 1) := by decide +kernel
theorem dX10_hopes_20 : decode cX10_hopes 20 = .ok (.getfield 14, 3) := by decide +kernel
theorem dX10_hopes_23 : decode cX10_hopes 23 = .ok (.getfield 87, 3) := by decide +kernel
theorem dX10_hopes_26 : decode cX10_hopes 26 = .ok (.getfield 320, 3) := by decide +kernel
theorem dX10_hopes_29 : decode cX10_hopes 29 = .ok (.ishl, 1) := by decide +kernel
theorem dX10_hopes_30 : decode cX10_hopes 30 = .ok (.iconst 1, 1) := by decide +kernel
theorem dX10_hopes_31 : decode cX10_hopes 31 = .ok (.isub, 1) := by decide +kernel
theorem dX10_hopes_32 : decode cX10_hopes 32 = .ok (.aload_n 0, 1) := by decide +kernel
theorem dX10_hopes_33 : decode cX10_hopes 33 = .ok (.getfield 14, 3) := by decide +kernel
theorem dX10_hopes_36 : decode cX10_hopes 36 = .ok (.getfield 87, 3) := by decide +kernel
theorem dX10_hopes_39 : decode cX10_hopes 39 = .ok (.getfield 320, 3) := by decide +kernel
theorem dX10_hopes_42 : decode cX10_hopes 42 = .ok (.iconst 1, 1) := by decide +kernel
theorem dX10_hopes_43 : decode cX10_hopes 43 = .ok (.isub, 1) := by decide +kernel
theorem dX10_hopes_44 : decode cX10_hopes 44 = .ok (.invokestatic 321, 3) := by decide +kernel
theorem dX10_hopes_47 : decode cX10_hopes 47 = .ok (.istore_n 2, 1) := by decide +kernel
theorem dX10_hopes_48 : decode cX10_hopes 48 = .ok (.iload_n 1, 1) := by decide +kernel
theorem dX10_hopes_49 : decode cX10_hopes 49 = .ok (.ifCond .ne 10, 3) := by decide +kernel
theorem dX10_hopes_52 : decode cX10_hopes 52 = .ok (.iload_n 2, 1) := by decide +kernel
theorem dX10_hopes_53 : decode cX10_hopes 53 = .ok (.bipush 12, 2) := by decide +kernel
theorem dX10_hopes_55 : decode cX10_hopes 55 = .ok (.ishr, 1) := by decide +kernel
theorem dX10_hopes_56 : decode cX10_hopes 56 = .ok (.goto 12, 3) := by decide +kernel
theorem dX10_hopes_59 : decode cX10_hopes 59 = .ok (.sipush 4095, 3) := by decide +kernel
theorem dX10_hopes_62 : decode cX10_hopes 62 = .ok (.iload_n 2, 1) := by decide +kernel
theorem dX10_hopes_63 : decode cX10_hopes 63 = .ok (.sipush 4095, 3) := by decide +kernel
theorem dX10_hopes_66 : decode cX10_hopes 66 = .ok (.iand, 1) := by decide +kernel
theorem dX10_hopes_67 : decode cX10_hopes 67 = .ok (.isub, 1) := by decide +kernel
theorem dX10_hopes_68 : decode cX10_hopes 68 = .ok (.ireturn, 1) := by decide +kernel
theorem dX10_undo_0 : decode cX10_undo 0 = .ok (.aload_n 0, 1) := by decide +kernel
theorem dX10_undo_1 : decode cX10_undo 1 = .ok (.getfield 27, 3) := by decide +kernel
theorem dX10_undo_4 : decode cX10_undo 4 = .ok (.aload_n 0, 1) := by decide +kernel
theorem dX10_undo_5 : decode cX10_undo 5 = .ok (.getfield 14, 3) := by decide +kernel
theorem dX10_undo_8 : decode cX10_undo 8 = .ok (.invokevirtual 325, 3) := by decide +kernel
theorem dX10_undo_11 : decode cX10_undo 11 = .ok (.ireturn, 1) := by decide +kernel
theorem dX10_image_0 : decode cX10_image 0 = .ok (.iload_n 1, 1) := by decide +kernel
theorem dX10_image_1 : decode cX10_image 1 = .ok (.ifCond .eq 37, 3) := by decide +kernel
theorem dX10_image_4 : decode cX10_image 4 = .ok (.aload_n 0, 1) := by decide +kernel
theorem dX10_image_5 : decode cX10_image 5 = .ok (.getfield 21, 3) := by decide +kernel
theorem dX10_image_8 : decode cX10_image 8 = .ok (.ifnonnull 17, 3) := by decide +kernel
theorem dX10_image_11 : decode cX10_image 11 = .ok (.aload_n 0, 1) := by decide +kernel
theorem dX10_image_12 : decode cX10_image 12 = .ok (.new 9, 3) := by decide +kernel
theorem dX10_image_15 : decode cX10_image 15 = .ok (.dup, 1) := by decide +kernel
theorem dX10_image_16 : decode cX10_image 16 = .ok (.sipush 150, 3) := by decide +kernel
theorem dX10_image_19 : decode cX10_image 19 = .ok (.invokespecial 11, 3) := by decide +kernel
theorem dX10_image_22 : decode cX10_image 22 = .ok (.putfield 21, 3) := by decide +kernel
theorem dX10_image_25 : decode cX10_image 25 = .ok (.aload_n 0, 1) := by decide +kernel
theorem dX10_image_26 : decode cX10_image 26 = .ok (.getfield 21, 3) := by decide +kernel
theorem dX10_image_29 : decode cX10_image 29 = .ok (.aload_n 0, 1) := by decide +kernel
theorem dX10_image_30 : decode cX10_image 30 = .ok (.getfield 14, 3) := by decide +kernel
theorem dX10_image_33 : decode cX10_image 33 = .ok (.invokevirtual 329, 3) := by decide +kernel
theorem dX10_image_36 : decode cX10_image 36 = .ok (.iconst 1, 1) := by decide +kernel
theorem dX10_image_37 : decode cX10_image 37 = .ok (.ireturn, 1) := by decide +kernel
theorem dX10_image_38 : decode cX10_image 38 = .ok (.aload_n 0, 1) := by decide +kernel
theorem dX10_image_39 : decode cX10_image 39 = .ok (.getfield 21, 3) := by decide +kernel
theorem dX10_image_42 : decode cX10_image 42 = .ok (.ifnonnull 5, 3) := by decide +kernel
theorem dX10_image_45 : decode cX10_image 45 = .ok (.iconst 0, 1) := by decide +kernel
theorem dX10_image_46 : decode cX10_image 46 = .ok (.ireturn, 1) := by decide +kernel
theorem dX10_image_47 : decode cX10_image 47 = .ok (.aload_n 0, 1) := by decide +kernel
theorem dX10_image_48 : decode cX10_image 48 = .ok (.getfield 14, 3) := by decide +kernel
theorem dX10_image_51 : decode cX10_image 51 = .ok (.aload_n 0, 1) := by decide +kernel
theorem dX10_image_52 : decode cX10_image 52 = .ok (.getfield 21, 3) := by decide +kernel
theorem dX10_image_55 : decode cX10_image 55 = .ok (.invokevirtual 329, 3) := by decide +kernel
theorem dX10_image_58 : decode cX10_image 58 = .ok (.aload_n 0, 1) := by decide +kernel
theorem dX10_image_59 : decode cX10_image 59 = .ok (.getfield 27, 3) := by decide +kernel
theorem dX10_image_62 : decode cX10_image 62 = .ok (.iconst 0, 1) := by decide +kernel
theorem dX10_image_63 : decode cX10_image 63 = .ok (.putfield 72, 3) := by decide +kernel
theorem dX10_image_66 : decode cX10_image 66 = .ok (.iconst 1, 1) := by decide +kernel
theorem dX10_image_67 : decode cX10_image 67 = .ok (.ireturn, 1) := by decide +kernel
theorem dX10_look_0 : decode cX10_look 0 = .ok (.iload_n 1, 1) := by decide +kernel
theorem dX10_look_1 : decode cX10_look 1 = .ok (.tableswitch 240 0 16 #[83, 91, 99, 107, 115, 123, 131, 142, 150, 161, 169, 180, 191, 202, 213, 224, 232], 83) := by decide +kernel
theorem dX10_look_84 : decode cX10_look 84 = .ok (.aload_n 0, 1) := by decide +kernel
theorem dX10_look_85 : decode cX10_look 85 = .ok (.getfield 14, 3) := by decide +kernel
theorem dX10_look_88 : decode cX10_look 88 = .ok (.getfield 332, 3) := by decide +kernel
theorem dX10_look_91 : decode cX10_look 91 = .ok (.ireturn, 1) := by decide +kernel
theorem dX10_look_92 : decode cX10_look 92 = .ok (.aload_n 0, 1) := by decide +kernel
theorem dX10_look_93 : decode cX10_look 93 = .ok (.getfield 14, 3) := by decide +kernel
theorem dX10_look_96 : decode cX10_look 96 = .ok (.getfield 335, 3) := by decide +kernel
theorem dX10_look_99 : decode cX10_look 99 = .ok (.ireturn, 1) := by decide +kernel
theorem dX10_look_100 : decode cX10_look 100 = .ok (.aload_n 0, 1) := by decide +kernel
theorem dX10_look_101 : decode cX10_look 101 = .ok (.getfield 14, 3) := by decide +kernel
theorem dX10_look_104 : decode cX10_look 104 = .ok (.getfield 157, 3) := by decide +kernel
theorem dX10_look_107 : decode cX10_look 107 = .ok (.ireturn, 1) := by decide +kernel
theorem dX10_look_108 : decode cX10_look 108 = .ok (.aload_n 0, 1) := by decide +kernel
theorem dX10_look_109 : decode cX10_look 109 = .ok (.getfield 14, 3) := by decide +kernel
theorem dX10_look_112 : decode cX10_look 112 = .ok (.getfield 104, 3) := by decide +kernel
theorem dX10_look_115 : decode cX10_look 115 = .ok (.ireturn, 1) := by decide +kernel
theorem dX10_look_116 : decode cX10_look 116 = .ok (.aload_n 0, 1) := by decide +kernel
theorem dX10_look_117 : decode cX10_look 117 = .ok (.getfield 14, 3) := by decide +kernel
theorem dX10_look_120 : decode cX10_look 120 = .ok (.getfield 107, 3) := by decide +kernel
theorem dX10_look_123 : decode cX10_look 123 = .ok (.ireturn, 1) := by decide +kernel
theorem dX10_look_124 : decode cX10_look 124 = .ok (.aload_n 0, 1) := by decide +kernel
theorem dX10_look_125 : decode cX10_look 125 = .ok (.getfield 14, 3) := by decide +kernel
theorem dX10_look_128 : decode cX10_look 128 = .ok (.getfield 110, 3) := by decide +kernel
theorem dX10_look_131 : decode cX10_look 131 = .ok (.ireturn, 1) := by decide +kernel
theorem dX10_look_132 : decode cX10_look 132 = .ok (.aload_n 0, 1) := by decide +kernel
theorem dX10_look_133 : decode cX10_look 133 = .ok (.getfield 14, 3) := by decide +kernel
theorem dX10_look_136 : decode cX10_look 136 = .ok (.getfield 87, 3) := by decide +kernel
theorem dX10_look_139 : decode cX10_look 139 = .ok (.getfield 320, 3) := by decide +kernel
theorem dX10_look_142 : decode cX10_look 142 = .ok (.ireturn, 1) := by decide +kernel
theorem dX10_look_143 : decode cX10_look 143 = .ok (.aload_n 0, 1) := by decide +kernel
theorem dX10_look_144 : decode cX10_look 144 = .ok (.getfield 14, 3) := by decide +kernel
theorem dX10_look_147 : decode cX10_look 147 = .ok (.getfield 308, 3) := by decide +kernel
theorem dX10_look_150 : decode cX10_look 150 = .ok (.ireturn, 1) := by decide +kernel
theorem dX10_look_151 : decode cX10_look 151 = .ok (.aload_n 0, 1) := by decide +kernel
theorem dX10_look_152 : decode cX10_look 152 = .ok (.getfield 14, 3) := by decide +kernel
theorem dX10_look_155 : decode cX10_look 155 = .ok (.getfield 215, 3) := by decide +kernel
theorem dX10_look_158 : decode cX10_look 158 = .ok (.getfield 219, 3) := by decide +kernel
theorem dX10_look_161 : decode cX10_look 161 = .ok (.ireturn, 1) := by decide +kernel
theorem dX10_look_162 : decode cX10_look 162 = .ok (.aload_n 0, 1) := by decide +kernel
theorem dX10_look_163 : decode cX10_look 163 = .ok (.getfield 14, 3) := by decide +kernel
theorem dX10_look_166 : decode cX10_look 166 = .ok (.getfield 68, 3) := by decide +kernel
theorem dX10_look_169 : decode cX10_look 169 = .ok (.ireturn, 1) := by decide +kernel
theorem dX10_look_170 : decode cX10_look 170 = .ok (.aload_n 0, 1) := by decide +kernel
theorem dX10_look_171 : decode cX10_look 171 = .ok (.getfield 14, 3) := by decide +kernel
theorem dX10_look_174 : decode cX10_look 174 = .ok (.getfield 338, 3) := by decide +kernel
theorem dX10_look_177 : decode cX10_look 177 = .ok (.getfield 342, 3) := by decide +kernel
theorem dX10_look_180 : decode cX10_look 180 = .ok (.ireturn, 1) := by decide +kernel
theorem dX10_look_181 : decode cX10_look 181 = .ok (.aload_n 0, 1) := by decide +kernel
theorem dX10_look_182 : decode cX10_look 182 = .ok (.getfield 14, 3) := by decide +kernel
theorem dX10_look_185 : decode cX10_look 185 = .ok (.getfield 296, 3) := by decide +kernel
theorem dX10_look_188 : decode cX10_look 188 = .ok (.getfield 219, 3) := by decide +kernel
theorem dX10_look_191 : decode cX10_look 191 = .ok (.ireturn, 1) := by decide +kernel
theorem dX10_look_192 : decode cX10_look 192 = .ok (.aload_n 0, 1) := by decide +kernel
theorem dX10_look_193 : decode cX10_look 193 = .ok (.getfield 14, 3) := by decide +kernel
theorem dX10_look_196 : decode cX10_look 196 = .ok (.getfield 345, 3) := by decide +kernel
theorem dX10_look_199 : decode cX10_look 199 = .ok (.getfield 219, 3) := by decide +kernel
theorem dX10_look_202 : decode cX10_look 202 = .ok (.ireturn, 1) := by decide +kernel
theorem dX10_look_203 : decode cX10_look 203 = .ok (.aload_n 0, 1) := by decide +kernel
theorem dX10_look_204 : decode cX10_look 204 = .ok (.getfield 14, 3) := by decide +kernel
theorem dX10_look_207 : decode cX10_look 207 = .ok (.getfield 231, 3) := by decide +kernel
theorem dX10_look_210 : decode cX10_look 210 = .ok (.getfield 219, 3) := by decide +kernel
theorem dX10_look_213 : decode cX10_look 213 = .ok (.ireturn, 1) := by decide +kernel
theorem dX10_look_214 : decode cX10_look 214 = .ok (.aload_n 0, 1) := by decide +kernel
theorem dX10_look_215 : decode cX10_look 215 = .ok (.getfield 14, 3) := by decide +kernel
theorem dX10_look_218 : decode cX10_look 218 = .ok (.getfield 259, 3) := by decide +kernel
theorem dX10_look_221 : decode cX10_look 221 = .ok (.getfield 219, 3) := by decide +kernel
theorem dX10_look_224 : decode cX10_look 224 = .ok (.ireturn, 1) := by decide +kernel
theorem dX10_look_225 : decode cX10_look 225 = .ok (.aload_n 0, 1) := by decide +kernel
theorem dX10_look_226 : decode cX10_look 226 = .ok (.getfield 27, 3) := by decide +kernel
theorem dX10_look_229 : decode cX10_look 229 = .ok (.getfield 72, 3) := by decide +kernel
theorem dX10_look_232 : decode cX10_look 232 = .ok (.ireturn, 1) := by decide +kernel
theorem dX10_look_233 : decode cX10_look 233 = .ok (.aload_n 0, 1) := by decide +kernel
theorem dX10_look_234 : decode cX10_look 234 = .ok (.getfield 14, 3) := by decide +kernel
theorem dX10_look_237 : decode cX10_look 237 = .ok (.invokevirtual 348, 3) := by decide +kernel
theorem dX10_look_240 : decode cX10_look 240 = .ok (.ireturn, 1) := by decide +kernel
theorem dX10_look_241 : decode cX10_look 241 = .ok (.ldc_w 351, 3) := by decide +kernel
theorem dX10_look_244 : decode cX10_look 244 = .ok (.ireturn, 1) := by decide +kernel
theorem dX10_beginThought_0 : decode cX10_beginThought 0 = .ok (.aload_n 0, 1) := by decide +kernel
theorem dX10_beginThought_1 : decode cX10_beginThought 1 = .ok (.getfield 18, 3) := by decide +kernel
theorem dX10_beginThought_4 : decode cX10_beginThought 4 = .ok (.aload_n 0, 1) := by decide +kernel
theorem dX10_beginThought_5 : decode cX10_beginThought 5 = .ok (.getfield 14, 3) := by decide +kernel
theorem dX10_beginThought_8 : decode cX10_beginThought 8 = .ok (.invokevirtual 329, 3) := by decide +kernel
theorem dX10_beginThought_11 : decode cX10_beginThought 11 = .ok (.aload_n 0, 1) := by decide +kernel
theorem dX10_beginThought_12 : decode cX10_beginThought 12 = .ok (.getfield 18, 3) := by decide +kernel
theorem dX10_beginThought_15 : decode cX10_beginThought 15 = .ok (.iconst 0, 1) := by decide +kernel
theorem dX10_beginThought_16 : decode cX10_beginThought 16 = .ok (.putfield 110, 3) := by decide +kernel
theorem dX10_beginThought_19 : decode cX10_beginThought 19 = .ok (.return_, 1) := by decide +kernel
theorem dX10_within_0 : decode cX10_within 0 = .ok (.iload_n 0, 1) := by decide +kernel
theorem dX10_within_1 : decode cX10_within 1 = .ok (.ifCond .lt 12, 3) := by decide +kernel
theorem dX10_within_4 : decode cX10_within 4 = .ok (.iload_n 0, 1) := by decide +kernel
theorem dX10_within_5 : decode cX10_within 5 = .ok (.iload_n 1, 1) := by decide +kernel
theorem dX10_within_6 : decode cX10_within 6 = .ok (.if_icmp .gt 7, 3) := by decide +kernel
theorem dX10_within_9 : decode cX10_within 9 = .ok (.iconst 1, 1) := by decide +kernel
theorem dX10_within_10 : decode cX10_within 10 = .ok (.goto 4, 3) := by decide +kernel
theorem dX10_within_13 : decode cX10_within 13 = .ok (.iconst 0, 1) := by decide +kernel
theorem dX10_within_14 : decode cX10_within 14 = .ok (.ireturn, 1) := by decide +kernel
theorem dX10_held_0 : decode cX10_held 0 = .ok (.iconst 0, 1) := by decide +kernel
theorem dX10_held_1 : decode cX10_held 1 = .ok (.iload_n 0, 1) := by decide +kernel
theorem dX10_held_2 : decode cX10_held 2 = .ok (.iload_n 1, 1) := by decide +kernel
theorem dX10_held_3 : decode cX10_held 3 = .ok (.invokestatic 147, 3) := by decide +kernel
theorem dX10_held_6 : decode cX10_held 6 = .ok (.invokestatic 352, 3) := by decide +kernel
theorem dX10_held_9 : decode cX10_held 9 = .ok (.ireturn, 1) := by decide +kernel
theorem dX10_steps_0 : decode cX10_steps 0 = .ok (.iload_n 0, 1) := by decide +kernel
theorem dX10_steps_1 : decode cX10_steps 1 = .ok (.bipush 7, 2) := by decide +kernel
theorem dX10_steps_3 : decode cX10_steps 3 = .ok (.iand, 1) := by decide +kernel
theorem dX10_steps_4 : decode cX10_steps 4 = .ok (.iload_n 1, 1) := by decide +kernel
theorem dX10_steps_5 : decode cX10_steps 5 = .ok (.bipush 7, 2) := by decide +kernel
theorem dX10_steps_7 : decode cX10_steps 7 = .ok (.iand, 1) := by decide +kernel
theorem dX10_steps_8 : decode cX10_steps 8 = .ok (.isub, 1) := by decide +kernel
theorem dX10_steps_9 : decode cX10_steps 9 = .ok (.invokestatic 305, 3) := by decide +kernel
theorem dX10_steps_12 : decode cX10_steps 12 = .ok (.iload_n 0, 1) := by decide +kernel
theorem dX10_steps_13 : decode cX10_steps 13 = .ok (.iconst 3, 1) := by decide +kernel
theorem dX10_steps_14 : decode cX10_steps 14 = .ok (.ishr, 1) := by decide +kernel
theorem dX10_steps_15 : decode cX10_steps 15 = .ok (.iload_n 1, 1) := by decide +kernel
theorem dX10_steps_16 : decode cX10_steps 16 = .ok (.iconst 3, 1) := by decide +kernel
theorem dX10_steps_17 : decode cX10_steps 17 = .ok (.ishr, 1) := by decide +kernel
theorem dX10_steps_18 : decode cX10_steps 18 = .ok (.isub, 1) := by decide +kernel
theorem dX10_steps_19 : decode cX10_steps 19 = .ok (.invokestatic 305, 3) := by decide +kernel
theorem dX10_steps_22 : decode cX10_steps 22 = .ok (.iadd, 1) := by decide +kernel
theorem dX10_steps_23 : decode cX10_steps 23 = .ok (.ireturn, 1) := by decide +kernel
theorem dX11_init_0 : decode cX11_init 0 = .ok (.aload_n 0, 1) := by decide +kernel
theorem dX11_init_1 : decode cX11_init 1 = .ok (.invokespecial 1, 3) := by decide +kernel
theorem dX11_init_4 : decode cX11_init 4 = .ok (.aload_n 0, 1) := by decide +kernel
theorem dX11_init_5 : decode cX11_init 5 = .ok (.sipush 1796, 3) := by decide +kernel
theorem dX11_init_8 : decode cX11_init 8 = .ok (.newarray .int, 2) := by decide +kernel
theorem dX11_init_10 : decode cX11_init 10 = .ok (.putfield 7, 3) := by decide +kernel
theorem dX11_init_13 : decode cX11_init 13 = .ok (.aload_n 0, 1) := by decide +kernel
theorem dX11_init_14 : decode cX11_init 14 = .ok (.sipush 1796, 3) := by decide +kernel
theorem dX11_init_17 : decode cX11_init 17 = .ok (.newarray .int, 2) := by decide +kernel
theorem dX11_init_19 : decode cX11_init 19 = .ok (.putfield 13, 3) := by decide +kernel
theorem dX11_init_22 : decode cX11_init 22 = .ok (.aload_n 0, 1) := by decide +kernel
theorem dX11_init_23 : decode cX11_init 23 = .ok (.sipush 480, 3) := by decide +kernel
theorem dX11_init_26 : decode cX11_init 26 = .ok (.newarray .int, 2) := by decide +kernel
theorem dX11_init_28 : decode cX11_init 28 = .ok (.putfield 16, 3) := by decide +kernel
theorem dX11_init_31 : decode cX11_init 31 = .ok (.aload_n 0, 1) := by decide +kernel
theorem dX11_init_32 : decode cX11_init 32 = .ok (.bipush 80, 2) := by decide +kernel
theorem dX11_init_34 : decode cX11_init 34 = .ok (.newarray .int, 2) := by decide +kernel
theorem dX11_init_36 : decode cX11_init 36 = .ok (.putfield 19, 3) := by decide +kernel
theorem dX11_init_39 : decode cX11_init 39 = .ok (.aload_n 0, 1) := by decide +kernel
theorem dX11_init_40 : decode cX11_init 40 = .ok (.bipush 64, 2) := by decide +kernel
theorem dX11_init_42 : decode cX11_init 42 = .ok (.newarray .int, 2) := by decide +kernel
theorem dX11_init_44 : decode cX11_init 44 = .ok (.putfield 22, 3) := by decide +kernel
theorem dX11_init_47 : decode cX11_init 47 = .ok (.aload_n 0, 1) := by decide +kernel
theorem dX11_init_48 : decode cX11_init 48 = .ok (.sipush 820, 3) := by decide +kernel
theorem dX11_init_51 : decode cX11_init 51 = .ok (.newarray .int, 2) := by decide +kernel
theorem dX11_init_53 : decode cX11_init 53 = .ok (.putfield 25, 3) := by decide +kernel
theorem dX11_init_56 : decode cX11_init 56 = .ok (.aload_n 0, 1) := by decide +kernel
theorem dX11_init_57 : decode cX11_init 57 = .ok (.bipush 64, 2) := by decide +kernel
theorem dX11_init_59 : decode cX11_init 59 = .ok (.newarray .int, 2) := by decide +kernel
theorem dX11_init_61 : decode cX11_init 61 = .ok (.putfield 28, 3) := by decide +kernel
theorem dX11_init_64 : decode cX11_init 64 = .ok (.aload_n 0, 1) := by decide +kernel
theorem dX11_init_65 : decode cX11_init 65 = .ok (.sipush 400, 3) := by decide +kernel
theorem dX11_init_68 : decode cX11_init 68 = .ok (.newarray .int, 2) := by decide +kernel
theorem dX11_init_70 : decode cX11_init 70 = .ok (.putfield 31, 3) := by decide +kernel
theorem dX11_init_73 : decode cX11_init 73 = .ok (.aload_n 0, 1) := by decide +kernel
theorem dX11_init_74 : decode cX11_init 74 = .ok (.sipush 420, 3) := by decide +kernel
theorem dX11_init_77 : decode cX11_init 77 = .ok (.newarray .int, 2) := by decide +kernel
theorem dX11_init_79 : decode cX11_init 79 = .ok (.putfield 34, 3) := by decide +kernel
theorem dX11_init_82 : decode cX11_init 82 = .ok (.aload_n 0, 1) := by decide +kernel
theorem dX11_init_83 : decode cX11_init 83 = .ok (.bipush 11, 2) := by decide +kernel
theorem dX11_init_85 : decode cX11_init 85 = .ok (.newarray .int, 2) := by decide +kernel
theorem dX11_init_87 : decode cX11_init 87 = .ok (.putfield 37, 3) := by decide +kernel
theorem dX11_init_90 : decode cX11_init 90 = .ok (.aload_n 0, 1) := by decide +kernel
theorem dX11_init_91 : decode cX11_init 91 = .ok (.iconst (-1), 1) := by decide +kernel
theorem dX11_init_92 : decode cX11_init 92 = .ok (.putfield 40, 3) := by decide +kernel
theorem dX11_init_95 : decode cX11_init 95 = .ok (.aload_n 0, 1) := by decide +kernel
theorem dX11_init_96 : decode cX11_init 96 = .ok (.bipush 64, 2) := by decide +kernel
theorem dX11_init_98 : decode cX11_init 98 = .ok (.newarray .int, 2) := by decide +kernel
theorem dX11_init_100 : decode cX11_init 100 = .ok (.putfield 44, 3) := by decide +kernel
theorem dX11_init_103 : decode cX11_init 103 = .ok (.aload_n 0, 1) := by decide +kernel
theorem dX11_init_104 : decode cX11_init 104 = .ok (.bipush 12, 2) := by decide +kernel
theorem dX11_init_106 : decode cX11_init 106 = .ok (.newarray .int, 2) := by decide +kernel
theorem dX11_init_108 : decode cX11_init 108 = .ok (.putfield 47, 3) := by decide +kernel
theorem dX11_init_111 : decode cX11_init 111 = .ok (.aload_n 0, 1) := by decide +kernel
theorem dX11_init_112 : decode cX11_init 112 = .ok (.bipush 12, 2) := by decide +kernel
theorem dX11_init_114 : decode cX11_init 114 = .ok (.newarray .int, 2) := by decide +kernel
theorem dX11_init_116 : decode cX11_init 116 = .ok (.putfield 50, 3) := by decide +kernel
theorem dX11_init_119 : decode cX11_init 119 = .ok (.aload_n 0, 1) := by decide +kernel
theorem dX11_init_120 : decode cX11_init 120 = .ok (.ldc 53, 2) := by decide +kernel
theorem dX11_init_122 : decode cX11_init 122 = .ok (.newarray .int, 2) := by decide +kernel
theorem dX11_init_124 : decode cX11_init 124 = .ok (.putfield 54, 3) := by decide +kernel
theorem dX11_init_127 : decode cX11_init 127 = .ok (.aload_n 0, 1) := by decide +kernel
theorem dX11_init_128 : decode cX11_init 128 = .ok (.sipush 144, 3) := by decide +kernel
theorem dX11_init_131 : decode cX11_init 131 = .ok (.newarray .int, 2) := by decide +kernel
theorem dX11_init_133 : decode cX11_init 133 = .ok (.putfield 57, 3) := by decide +kernel
theorem dX11_init_136 : decode cX11_init 136 = .ok (.aload_n 0, 1) := by decide +kernel
theorem dX11_init_137 : decode cX11_init 137 = .ok (.bipush 10, 2) := by decide +kernel
theorem dX11_init_139 : decode cX11_init 139 = .ok (.newarray .int, 2) := by decide +kernel
theorem dX11_init_141 : decode cX11_init 141 = .ok (.putfield 60, 3) := by decide +kernel
theorem dX11_init_144 : decode cX11_init 144 = .ok (.aload_n 0, 1) := by decide +kernel
theorem dX11_init_145 : decode cX11_init 145 = .ok (.sipush 128, 3) := by decide +kernel
theorem dX11_init_148 : decode cX11_init 148 = .ok (.newarray .int, 2) := by decide +kernel
theorem dX11_init_150 : decode cX11_init 150 = .ok (.putfield 63, 3) := by decide +kernel
theorem dX11_init_153 : decode cX11_init 153 = .ok (.aload_n 0, 1) := by decide +kernel
theorem dX11_init_154 : decode cX11_init 154 = .ok (.sipush 128, 3) := by decide +kernel
theorem dX11_init_157 : decode cX11_init 157 = .ok (.newarray .int, 2) := by decide +kernel
theorem dX11_init_159 : decode cX11_init 159 = .ok (.putfield 66, 3) := by decide +kernel
theorem dX11_init_162 : decode cX11_init 162 = .ok (.aload_n 0, 1) := by decide +kernel
theorem dX11_init_163 : decode cX11_init 163 = .ok (.bipush 64, 2) := by decide +kernel
theorem dX11_init_165 : decode cX11_init 165 = .ok (.newarray .int, 2) := by decide +kernel
theorem dX11_init_167 : decode cX11_init 167 = .ok (.putfield 69, 3) := by decide +kernel
theorem dX11_init_170 : decode cX11_init 170 = .ok (.aload_n 0, 1) := by decide +kernel
theorem dX11_init_171 : decode cX11_init 171 = .ok (.sipush 256, 3) := by decide +kernel
theorem dX11_init_174 : decode cX11_init 174 = .ok (.newarray .int, 2) := by decide +kernel
theorem dX11_init_176 : decode cX11_init 176 = .ok (.putfield 72, 3) := by decide +kernel
theorem dX11_init_179 : decode cX11_init 179 = .ok (.aload_n 0, 1) := by decide +kernel
theorem dX11_init_180 : decode cX11_init 180 = .ok (.bipush 16, 2) := by decide +kernel
theorem dX11_init_182 : decode cX11_init 182 = .ok (.newarray .int, 2) := by decide +kernel
theorem dX11_init_184 : decode cX11_init 184 = .ok (.putfield 75, 3) := by decide +kernel
theorem dX11_init_187 : decode cX11_init 187 = .ok (.aload_n 0, 1) := by decide +kernel
theorem dX11_init_188 : decode cX11_init 188 = .ok (.iconst 5, 1) := by decide +kernel
theorem dX11_init_189 : decode cX11_init 189 = .ok (.iconst 4, 1) := by decide +kernel
theorem dX11_init_190 : decode cX11_init 190 = .ok (.invokevirtual 78, 3) := by decide +kernel
theorem dX11_init_193 : decode cX11_init 193 = .ok (.return_, 1) := by decide +kernel
theorem dX11_begins_0 : decode cX11_begins 0 = .ok (.aload_n 0, 1) := by decide +kernel
theorem dX11_begins_1 : decode cX11_begins 1 = .ok (.getfield 7, 3) := by decide +kernel
theorem dX11_begins_4 : decode cX11_begins 4 = .ok (.iconst 2, 1) := by decide +kernel
theorem dX11_begins_5 : decode cX11_begins 5 = .ok (.iaload, 1) := by decide +kernel
theorem dX11_begins_6 : decode cX11_begins 6 = .ok (.istore_n 3, 1) := by decide +kernel
theorem dX11_begins_7 : decode cX11_begins 7 = .ok (.iconst 0, 1) := by decide +kernel
theorem dX11_begins_8 : decode cX11_begins 8 = .ok (.istore 4, 2) := by decide +kernel
theorem dX11_begins_10 : decode cX11_begins 10 = .ok (.iload 4, 2) := by decide +kernel
theorem dX11_begins_12 : decode cX11_begins 12 = .ok (.sipush 1796, 3) := by decide +kernel
theorem dX11_begins_15 : decode cX11_begins 15 = .ok (.if_icmp .ge 17, 3) := by decide +kernel
theorem dX11_begins_18 : decode cX11_begins 18 = .ok (.aload_n 0, 1) := by decide +kernel
theorem dX11_begins_19 : decode cX11_begins 19 = .ok (.getfield 7, 3) := by decide +kernel
theorem dX11_begins_22 : decode cX11_begins 22 = .ok (.iload 4, 2) := by decide +kernel
theorem dX11_begins_24 : decode cX11_begins 24 = .ok (.iconst 0, 1) := by decide +kernel
theorem dX11_begins_25 : decode cX11_begins 25 = .ok (.iastore, 1) := by decide +kernel
theorem dX11_begins_26 : decode cX11_begins 26 = .ok (.iinc 4 1, 3) := by decide +kernel
theorem dX11_begins_29 : decode cX11_begins 29 = .ok (.goto (-19), 3) := by decide +kernel
theorem dX11_begins_32 : decode cX11_begins 32 = .ok (.aload_n 0, 1) := by decide +kernel
theorem dX11_begins_33 : decode cX11_begins 33 = .ok (.getfield 7, 3) := by decide +kernel
theorem dX11_begins_36 : decode cX11_begins 36 = .ok (.iconst 2, 1) := by decide +kernel
theorem dX11_begins_37 : decode cX11_begins 37 = .ok (.iload_n 3, 1) := by decide +kernel
theorem dX11_begins_38 : decode cX11_begins 38 = .ok (.iastore, 1) := by decide +kernel
theorem dX11_begins_39 : decode cX11_begins 39 = .ok (.aload_n 0, 1) := by decide +kernel
theorem dX11_begins_40 : decode cX11_begins 40 = .ok (.getfield 7, 3) := by decide +kernel
theorem dX11_begins_43 : decode cX11_begins 43 = .ok (.bipush 80, 2) := by decide +kernel
theorem dX11_begins_45 : decode cX11_begins 45 = .ok (.iload_n 1, 1) := by decide +kernel
theorem dX11_begins_46 : decode cX11_begins 46 = .ok (.iastore, 1) := by decide +kernel
theorem dX11_begins_47 : decode cX11_begins 47 = .ok (.aload_n 0, 1) := by decide +kernel
theorem dX11_begins_48 : decode cX11_begins 48 = .ok (.getfield 7, 3) := by decide +kernel
theorem dX11_begins_51 : decode cX11_begins 51 = .ok (.bipush 81, 2) := by decide +kernel
theorem dX11_begins_53 : decode cX11_begins 53 = .ok (.iload_n 2, 1) := by decide +kernel
theorem dX11_begins_54 : decode cX11_begins 54 = .ok (.iastore, 1) := by decide +kernel
theorem dX11_begins_55 : decode cX11_begins 55 = .ok (.aload_n 0, 1) := by decide +kernel
theorem dX11_begins_56 : decode cX11_begins 56 = .ok (.getfield 7, 3) := by decide +kernel
theorem dX11_begins_59 : decode cX11_begins 59 = .ok (.bipush 82, 2) := by decide +kernel
theorem dX11_begins_61 : decode cX11_begins 61 = .ok (.iconst 1, 1) := by decide +kernel
theorem dX11_begins_62 : decode cX11_begins 62 = .ok (.iastore, 1) := by decide +kernel
theorem dX11_begins_63 : decode cX11_begins 63 = .ok (.aload_n 0, 1) := by decide +kernel
theorem dX11_begins_64 : decode cX11_begins 64 = .ok (.getfield 7, 3) := by decide +kernel
theorem dX11_begins_67 : decode cX11_begins 67 = .ok (.bipush 83, 2) := by decide +kernel
theorem dX11_begins_69 : decode cX11_begins 69 = .ok (.bipush 60, 2) := by decide +kernel
theorem dX11_begins_71 : decode cX11_begins 71 = .ok (.iastore, 1) := by decide +kernel
theorem dX11_begins_72 : decode cX11_begins 72 = .ok (.iconst 0, 1) := by decide +kernel
theorem dX11_begins_73 : decode cX11_begins 73 = .ok (.istore 4, 2) := by decide +kernel
theorem dX11_begins_75 : decode cX11_begins 75 = .ok (.iload 4, 2) := by decide +kernel
theorem dX11_begins_77 : decode cX11_begins 77 = .ok (.bipush 64, 2) := by decide +kernel
theorem dX11_begins_79 : decode cX11_begins 79 = .ok (.if_icmp .ge 33, 3) := by decide +kernel
theorem dX11_begins_82 : decode cX11_begins 82 = .ok (.aload_n 0, 1) := by decide +kernel
theorem dX11_begins_83 : decode cX11_begins 83 = .ok (.getfield 7, 3) := by decide +kernel
theorem dX11_begins_86 : decode cX11_begins 86 = .ok (.iconst 4, 1) := by decide +kernel
theorem dX11_begins_87 : decode cX11_begins 87 = .ok (.iload 4, 2) := by decide +kernel
theorem dX11_begins_89 : decode cX11_begins 89 = .ok (.iadd, 1) := by decide +kernel
theorem dX11_begins_90 : decode cX11_begins 90 = .ok (.aload_n 0, 1) := by decide +kernel
theorem dX11_begins_91 : decode cX11_begins 91 = .ok (.iload 4, 2) := by decide +kernel
theorem dX11_begins_93 : decode cX11_begins 93 = .ok (.invokevirtual 82, 3) := by decide +kernel
theorem dX11_begins_96 : decode cX11_begins 96 = .ok (.ifCond .eq 8, 3) := by decide +kernel
theorem dX11_begins_99 : decode cX11_begins 99 = .ok (.bipush 10, 2) := by decide +kernel
theorem dX11_begins_101 : decode cX11_begins 101 = .ok (.goto 4, 3) := by decide +kernel
theorem dX11_begins_104 : decode cX11_begins 104 = .ok (.iconst 0, 1) := by decide +kernel
theorem dX11_begins_105 : decode cX11_begins 105 = .ok (.iastore, 1) := by decide +kernel
theorem dX11_begins_106 : decode cX11_begins 106 = .ok (.iinc 4 1, 3) := by decide +kernel
theorem dX11_begins_109 : decode cX11_begins 109 = .ok (.goto (-34), 3) := by decide +kernel
theorem dX11_begins_112 : decode cX11_begins 112 = .ok (.iconst 0, 1) := by decide +kernel
theorem dX11_begins_113 : decode cX11_begins 113 = .ok (.istore 4, 2) := by decide +kernel
theorem dX11_begins_115 : decode cX11_begins 115 = .ok (.iload 4, 2) := by decide +kernel
theorem dX11_begins_117 : decode cX11_begins 117 = .ok (.bipush 12, 2) := by decide +kernel
theorem dX11_begins_119 : decode cX11_begins 119 = .ok (.if_icmp .ge 20, 3) := by decide +kernel
theorem dX11_begins_122 : decode cX11_begins 122 = .ok (.aload_n 0, 1) := by decide +kernel
theorem dX11_begins_123 : decode cX11_begins 123 = .ok (.getfield 7, 3) := by decide +kernel
theorem dX11_begins_126 : decode cX11_begins 126 = .ok (.bipush 68, 2) := by decide +kernel
theorem dX11_begins_128 : decode cX11_begins 128 = .ok (.iload 4, 2) := by decide +kernel
theorem dX11_begins_130 : decode cX11_begins 130 = .ok (.iadd, 1) := by decide +kernel
theorem dX11_begins_131 : decode cX11_begins 131 = .ok (.iconst (-1), 1) := by decide +kernel
theorem dX11_begins_132 : decode cX11_begins 132 = .ok (.iastore, 1) := by decide +kernel
theorem dX11_begins_133 : decode cX11_begins 133 = .ok (.iinc 4 1, 3) := by decide +kernel
theorem dX11_begins_136 : decode cX11_begins 136 = .ok (.goto (-21), 3) := by decide +kernel
theorem dX11_begins_139 : decode cX11_begins 139 = .ok (.aload_n 0, 1) := by decide +kernel
theorem dX11_begins_140 : decode cX11_begins 140 = .ok (.iconst 0, 1) := by decide +kernel
theorem dX11_begins_141 : decode cX11_begins 141 = .ok (.putfield 86, 3) := by decide +kernel
theorem dX11_begins_144 : decode cX11_begins 144 = .ok (.return_, 1) := by decide +kernel
theorem dX11_isIn_0 : decode cX11_isIn 0 = .ok (.iload_n 0, 1) := by decide +kernel
theorem dX11_isIn_1 : decode cX11_isIn 1 = .ok (.iload_n 1, 1) := by decide +kernel
theorem dX11_isIn_2 : decode cX11_isIn 2 = .ok (.if_icmp .lt 12, 3) := by decide +kernel
theorem dX11_isIn_5 : decode cX11_isIn 5 = .ok (.iload_n 0, 1) := by decide +kernel
theorem dX11_isIn_6 : decode cX11_isIn 6 = .ok (.iload_n 2, 1) := by decide +kernel
theorem dX11_isIn_7 : decode cX11_isIn 7 = .ok (.if_icmp .gt 7, 3) := by decide +kernel
theorem dX11_isIn_10 : decode cX11_isIn 10 = .ok (.iconst 1, 1) := by decide +kernel
theorem dX11_isIn_11 : decode cX11_isIn 11 = .ok (.goto 4, 3) := by decide +kernel
theorem dX11_isIn_14 : decode cX11_isIn 14 = .ok (.iconst 0, 1) := by decide +kernel
theorem dX11_isIn_15 : decode cX11_isIn 15 = .ok (.ireturn, 1) := by decide +kernel
theorem dX11_lesser_0 : decode cX11_lesser 0 = .ok (.iload_n 0, 1) := by decide +kernel
theorem dX11_lesser_1 : decode cX11_lesser 1 = .ok (.iload_n 1, 1) := by decide +kernel
theorem dX11_lesser_2 : decode cX11_lesser 2 = .ok (.if_icmp .ge 7, 3) := by decide +kernel
theorem dX11_lesser_5 : decode cX11_lesser 5 = .ok (.iload_n 0, 1) := by decide +kernel
theorem dX11_lesser_6 : decode cX11_lesser 6 = .ok (.goto 4, 3) := by decide +kernel
theorem dX11_lesser_9 : decode cX11_lesser 9 = .ok (.iload_n 1, 1) := by decide +kernel
theorem dX11_lesser_10 : decode cX11_lesser 10 = .ok (.ireturn, 1) := by decide +kernel
theorem dX11_greater_0 : decode cX11_greater 0 = .ok (.iload_n 0, 1) := by decide +kernel
theorem dX11_greater_1 : decode cX11_greater 1 = .ok (.iload_n 1, 1) := by decide +kernel
theorem dX11_greater_2 : decode cX11_greater 2 = .ok (.if_icmp .le 7, 3) := by decide +kernel
theorem dX11_greater_5 : decode cX11_greater 5 = .ok (.iload_n 0, 1) := by decide +kernel
theorem dX11_greater_6 : decode cX11_greater 6 = .ok (.goto 4, 3) := by decide +kernel
theorem dX11_greater_9 : decode cX11_greater 9 = .ok (.iload_n 1, 1) := by decide +kernel
theorem dX11_greater_10 : decode cX11_greater 10 = .ok (.ireturn, 1) := by decide +kernel
theorem dX11_size_0 : decode cX11_size 0 = .ok (.iload_n 0, 1) := by decide +kernel
theorem dX11_size_1 : decode cX11_size 1 = .ok (.ifCond .ge 8, 3) := by decide +kernel
theorem dX11_size_4 : decode cX11_size 4 = .ok (.iload_n 0, 1) := by decide +kernel
theorem dX11_size_5 : decode cX11_size 5 = .ok (.ineg, 1) := by decide +kernel
theorem dX11_size_6 : decode cX11_size 6 = .ok (.goto 4, 3) := by decide +kernel
theorem dX11_size_9 : decode cX11_size 9 = .ok (.iload_n 0, 1) := by decide +kernel
theorem dX11_size_10 : decode cX11_size 10 = .ok (.ireturn, 1) := by decide +kernel
theorem dX11_isOn_0 : decode cX11_isOn 0 = .ok (.iload_n 1, 1) := by decide +kernel
theorem dX11_isOn_1 : decode cX11_isOn 1 = .ok (.iconst 0, 1) := by decide +kernel
theorem dX11_isOn_2 : decode cX11_isOn 2 = .ok (.aload_n 0, 1) := by decide +kernel
theorem dX11_isOn_3 : decode cX11_isOn 3 = .ok (.getfield 7, 3) := by decide +kernel
theorem dX11_isOn_6 : decode cX11_isOn 6 = .ok (.bipush 80, 2) := by decide +kernel
theorem dX11_isOn_8 : decode cX11_isOn 8 = .ok (.iaload, 1) := by decide +kernel
theorem dX11_isOn_9 : decode cX11_isOn 9 = .ok (.iconst 1, 1) := by decide +kernel
theorem dX11_isOn_10 : decode cX11_isOn 10 = .ok (.isub, 1) := by decide +kernel
theorem dX11_isOn_11 : decode cX11_isOn 11 = .ok (.invokestatic 89, 3) := by decide +kernel
theorem dX11_isOn_14 : decode cX11_isOn 14 = .ok (.ifCond .eq 24, 3) := by decide +kernel
theorem dX11_isOn_17 : decode cX11_isOn 17 = .ok (.iload_n 2, 1) := by decide +kernel
theorem dX11_isOn_18 : decode cX11_isOn 18 = .ok (.iconst 0, 1) := by decide +kernel
theorem dX11_isOn_19 : decode cX11_isOn 19 = .ok (.aload_n 0, 1) := by decide +kernel
theorem dX11_isOn_20 : decode cX11_isOn 20 = .ok (.getfield 7, 3) := by decide +kernel
theorem dX11_isOn_23 : decode cX11_isOn 23 = .ok (.bipush 81, 2) := by decide +kernel
theorem dX11_isOn_25 : decode cX11_isOn 25 = .ok (.iaload, 1) := by decide +kernel
theorem dX11_isOn_26 : decode cX11_isOn 26 = .ok (.iconst 1, 1) := by decide +kernel
theorem dX11_isOn_27 : decode cX11_isOn 27 = .ok (.isub, 1) := by decide +kernel
theorem dX11_isOn_28 : decode cX11_isOn 28 = .ok (.invokestatic 89, 3) := by decide +kernel
theorem dX11_isOn_31 : decode cX11_isOn 31 = .ok (.ifCond .eq 7, 3) := by decide +kernel
theorem dX11_isOn_34 : decode cX11_isOn 34 = .ok (.iconst 1, 1) := by decide +kernel
theorem dX11_isOn_35 : decode cX11_isOn 35 = .ok (.goto 4, 3) := by decide +kernel
theorem dX11_isOn_38 : decode cX11_isOn 38 = .ok (.iconst 0, 1) := by decide +kernel
theorem dX11_isOn_39 : decode cX11_isOn 39 = .ok (.ireturn, 1) := by decide +kernel
theorem dX11_isField_0 : decode cX11_isField 0 = .ok (.iload_n 1, 1) := by decide +kernel
theorem dX11_isField_1 : decode cX11_isField 1 = .ok (.iconst 0, 1) := by decide +kernel
theorem dX11_isField_2 : decode cX11_isField 2 = .ok (.bipush 63, 2) := by decide +kernel
theorem dX11_isField_4 : decode cX11_isField 4 = .ok (.invokestatic 89, 3) := by decide +kernel
theorem dX11_isField_7 : decode cX11_isField 7 = .ok (.ifCond .eq 22, 3) := by decide +kernel
theorem dX11_isField_10 : decode cX11_isField 10 = .ok (.aload_n 0, 1) := by decide +kernel
theorem dX11_isField_11 : decode cX11_isField 11 = .ok (.iload_n 1, 1) := by decide +kernel
theorem dX11_isField_12 : decode cX11_isField 12 = .ok (.bipush 8, 2) := by decide +kernel
theorem dX11_isField_14 : decode cX11_isField 14 = .ok (.irem, 1) := by decide +kernel
theorem dX11_isField_15 : decode cX11_isField 15 = .ok (.iload_n 1, 1) := by decide +kernel
theorem dX11_isField_16 : decode cX11_isField 16 = .ok (.bipush 8, 2) := by decide +kernel
theorem dX11_isField_18 : decode cX11_isField 18 = .ok (.idiv, 1) := by decide +kernel
theorem dX11_isField_19 : decode cX11_isField 19 = .ok (.invokevirtual 93, 3) := by decide +kernel
theorem dX11_isField_22 : decode cX11_isField 22 = .ok (.ifCond .eq 7, 3) := by decide +kernel
theorem dX11_isField_25 : decode cX11_isField 25 = .ok (.iconst 1, 1) := by decide +kernel
theorem dX11_isField_26 : decode cX11_isField 26 = .ok (.goto 4, 3) := by decide +kernel
theorem dX11_isField_29 : decode cX11_isField 29 = .ok (.iconst 0, 1) := by decide +kernel
theorem dX11_isField_30 : decode cX11_isField 30 = .ok (.ireturn, 1) := by decide +kernel
theorem dX11_isPerson_0 : decode cX11_isPerson 0 = .ok (.iload_n 1, 1) := by decide +kernel
theorem dX11_isPerson_1 : decode cX11_isPerson 1 = .ok (.iconst 0, 1) := by decide +kernel
theorem dX11_isPerson_2 : decode cX11_isPerson 2 = .ok (.aload_n 0, 1) := by decide +kernel
theorem dX11_isPerson_3 : decode cX11_isPerson 3 = .ok (.getfield 7, 3) := by decide +kernel
theorem dX11_isPerson_6 : decode cX11_isPerson 6 = .ok (.bipush 85, 2) := by decide +kernel
theorem dX11_isPerson_8 : decode cX11_isPerson 8 = .ok (.iaload, 1) := by decide +kernel
theorem dX11_isPerson_9 : decode cX11_isPerson 9 = .ok (.iconst 1, 1) := by decide +kernel
theorem dX11_isPerson_10 : decode cX11_isPerson 10 = .ok (.isub, 1) := by decide +kernel
theorem dX11_isPerson_11 : decode cX11_isPerson 11 = .ok (.invokestatic 89, 3) := by decide +kernel
theorem dX11_isPerson_14 : decode cX11_isPerson 14 = .ok (.ireturn, 1) := by decide +kernel
theorem dX11_isFree_0 : decode cX11_isFree 0 = .ok (.aload_n 0, 1) := by decide +kernel
theorem dX11_isFree_1 : decode cX11_isFree 1 = .ok (.getfield 7, 3) := by decide +kernel
theorem dX11_isFree_4 : decode cX11_isFree 4 = .ok (.bipush 68, 2) := by decide +kernel
theorem dX11_isFree_6 : decode cX11_isFree 6 = .ok (.iload_n 1, 1) := by decide +kernel
theorem dX11_isFree_7 : decode cX11_isFree 7 = .ok (.iadd, 1) := by decide +kernel
theorem dX11_isFree_8 : decode cX11_isFree 8 = .ok (.iaload, 1) := by decide +kernel
theorem dX11_isFree_9 : decode cX11_isFree 9 = .ok (.iconst (-1), 1) := by decide +kernel
theorem dX11_isFree_10 : decode cX11_isFree 10 = .ok (.if_icmp .ne 7, 3) := by decide +kernel
theorem dX11_isFree_13 : decode cX11_isFree 13 = .ok (.iconst 1, 1) := by decide +kernel
theorem dX11_isFree_14 : decode cX11_isFree 14 = .ok (.goto 4, 3) := by decide +kernel
theorem dX11_isFree_17 : decode cX11_isFree 17 = .ok (.iconst 0, 1) := by decide +kernel
theorem dX11_isFree_18 : decode cX11_isFree 18 = .ok (.ireturn, 1) := by decide +kernel
theorem dX11_areUnlike_0 : decode cX11_areUnlike 0 = .ok (.aload_n 0, 1) := by decide +kernel
theorem dX11_areUnlike_1 : decode cX11_areUnlike 1 = .ok (.iload_n 1, 1) := by decide +kernel
theorem dX11_areUnlike_2 : decode cX11_areUnlike 2 = .ok (.invokevirtual 97, 3) := by decide +kernel
theorem dX11_areUnlike_5 : decode cX11_areUnlike 5 = .ok (.ifCond .eq 36, 3) := by decide +kernel
theorem dX11_areUnlike_8 : decode cX11_areUnlike 8 = .ok (.aload_n 0, 1) := by decide +kernel
theorem dX11_areUnlike_9 : decode cX11_areUnlike 9 = .ok (.iload_n 2, 1) := by decide +kernel
theorem dX11_areUnlike_10 : decode cX11_areUnlike 10 = .ok (.invokevirtual 97, 3) := by decide +kernel
theorem dX11_areUnlike_13 : decode cX11_areUnlike 13 = .ok (.ifCond .eq 28, 3) := by decide +kernel
theorem dX11_areUnlike_16 : decode cX11_areUnlike 16 = .ok (.aload_n 0, 1) := by decide +kernel
theorem dX11_areUnlike_17 : decode cX11_areUnlike 17 = .ok (.getfield 7, 3) := by decide +kernel
theorem dX11_areUnlike_20 : decode cX11_areUnlike 20 = .ok (.bipush 91, 2) := by decide +kernel
theorem dX11_areUnlike_22 : decode cX11_areUnlike 22 = .ok (.iload_n 1, 1) := by decide +kernel
theorem dX11_areUnlike_23 : decode cX11_areUnlike 23 = .ok (.iadd, 1) := by decide +kernel
theorem dX11_areUnlike_24 : decode cX11_areUnlike 24 = .ok (.iaload, 1) := by decide +kernel
theorem dX11_areUnlike_25 : decode cX11_areUnlike 25 = .ok (.aload_n 0, 1) := by decide +kernel
theorem dX11_areUnlike_26 : decode cX11_areUnlike 26 = .ok (.getfield 7, 3) := by decide +kernel
theorem dX11_areUnlike_29 : decode cX11_areUnlike 29 = .ok (.bipush 91, 2) := by decide +kernel
theorem dX11_areUnlike_31 : decode cX11_areUnlike 31 = .ok (.iload_n 2, 1) := by decide +kernel
theorem dX11_areUnlike_32 : decode cX11_areUnlike 32 = .ok (.iadd, 1) := by decide +kernel
theorem dX11_areUnlike_33 : decode cX11_areUnlike 33 = .ok (.iaload, 1) := by decide +kernel
theorem dX11_areUnlike_34 : decode cX11_areUnlike 34 = .ok (.if_icmp .eq 7, 3) := by decide +kernel
theorem dX11_areUnlike_37 : decode cX11_areUnlike 37 = .ok (.iconst 1, 1) := by decide +kernel
theorem dX11_areUnlike_38 : decode cX11_areUnlike 38 = .ok (.goto 4, 3) := by decide +kernel
theorem dX11_areUnlike_41 : decode cX11_areUnlike 41 = .ok (.iconst 0, 1) := by decide +kernel
theorem dX11_areUnlike_42 : decode cX11_areUnlike 42 = .ok (.ireturn, 1) := by decide +kernel
theorem dX11_wentTo_0 : decode cX11_wentTo 0 = .ok (.iload_n 1, 1) := by decide +kernel
theorem dX11_wentTo_1 : decode cX11_wentTo 1 = .ok (.bipush 8, 2) := by decide +kernel
theorem dX11_wentTo_3 : decode cX11_wentTo 3 = .ok (.irem, 1) := by decide +kernel
theorem dX11_wentTo_4 : decode cX11_wentTo 4 = .ok (.iload_n 2, 1) := by decide +kernel
theorem dX11_wentTo_5 : decode cX11_wentTo 5 = .ok (.iconst 1, 1) := by decide +kernel
theorem dX11_wentTo_6 : decode cX11_wentTo 6 = .ok (.if_icmp .ne 7, 3) := by decide +kernel
theorem dX11_wentTo_9 : decode cX11_wentTo 9 = .ok (.iconst 1, 1) := by decide +kernel
theorem dX11_wentTo_10 : decode cX11_wentTo 10 = .ok (.goto 13, 3) := by decide +kernel
theorem dX11_wentTo_13 : decode cX11_wentTo 13 = .ok (.iload_n 2, 1) := by decide +kernel
theorem dX11_wentTo_14 : decode cX11_wentTo 14 = .ok (.iconst 3, 1) := by decide +kernel
theorem dX11_wentTo_15 : decode cX11_wentTo 15 = .ok (.if_icmp .ne 7, 3) := by decide +kernel
theorem dX11_wentTo_18 : decode cX11_wentTo 18 = .ok (.iconst (-1), 1) := by decide +kernel
theorem dX11_wentTo_19 : decode cX11_wentTo 19 = .ok (.goto 4, 3) := by decide +kernel
theorem dX11_wentTo_22 : decode cX11_wentTo 22 = .ok (.iconst 0, 1) := by decide +kernel
theorem dX11_wentTo_23 : decode cX11_wentTo 23 = .ok (.iadd, 1) := by decide +kernel
theorem dX11_wentTo_24 : decode cX11_wentTo 24 = .ok (.istore_n 3, 1) := by decide +kernel
theorem dX11_wentTo_25 : decode cX11_wentTo 25 = .ok (.iload_n 1, 1) := by decide +kernel
theorem dX11_wentTo_26 : decode cX11_wentTo 26 = .ok (.bipush 8, 2) := by decide +kernel
theorem dX11_wentTo_28 : decode cX11_wentTo 28 = .ok (.idiv, 1) := by decide +kernel
theorem dX11_wentTo_29 : decode cX11_wentTo 29 = .ok (.iload_n 2, 1) := by decide +kernel
theorem dX11_wentTo_30 : decode cX11_wentTo 30 = .ok (.iconst 2, 1) := by decide +kernel
theorem dX11_wentTo_31 : decode cX11_wentTo 31 = .ok (.if_icmp .ne 7, 3) := by decide +kernel
theorem dX11_wentTo_34 : decode cX11_wentTo 34 = .ok (.iconst 1, 1) := by decide +kernel
theorem dX11_wentTo_35 : decode cX11_wentTo 35 = .ok (.goto 12, 3) := by decide +kernel
theorem dX11_wentTo_38 : decode cX11_wentTo 38 = .ok (.iload_n 2, 1) := by decide +kernel
theorem dX11_wentTo_39 : decode cX11_wentTo 39 = .ok (.ifCond .ne 7, 3) := by decide +kernel
theorem dX11_wentTo_42 : decode cX11_wentTo 42 = .ok (.iconst (-1), 1) := by decide +kernel
theorem dX11_wentTo_43 : decode cX11_wentTo 43 = .ok (.goto 4, 3) := by decide +kernel
theorem dX11_wentTo_46 : decode cX11_wentTo 46 = .ok (.iconst 0, 1) := by decide +kernel
theorem dX11_wentTo_47 : decode cX11_wentTo 47 = .ok (.iadd, 1) := by decide +kernel
theorem dX11_wentTo_48 : decode cX11_wentTo 48 = .ok (.istore 4, 2) := by decide +kernel
theorem dX11_wentTo_50 : decode cX11_wentTo 50 = .ok (.aload_n 0, 1) := by decide +kernel
theorem dX11_wentTo_51 : decode cX11_wentTo 51 = .ok (.iload_n 3, 1) := by decide +kernel
theorem dX11_wentTo_52 : decode cX11_wentTo 52 = .ok (.iload 4, 2) := by decide +kernel
theorem dX11_wentTo_54 : decode cX11_wentTo 54 = .ok (.invokevirtual 93, 3) := by decide +kernel
theorem dX11_wentTo_57 : decode cX11_wentTo 57 = .ok (.ifCond .eq 13, 3) := by decide +kernel
theorem dX11_wentTo_60 : decode cX11_wentTo 60 = .ok (.bipush 8, 2) := by decide +kernel
theorem dX11_wentTo_62 : decode cX11_wentTo 62 = .ok (.iload 4, 2) := by decide +kernel
theorem dX11_wentTo_64 : decode cX11_wentTo 64 = .ok (.imul, 1) := by decide +kernel
theorem dX11_wentTo_65 : decode cX11_wentTo 65 = .ok (.iload_n 3, 1) := by decide +kernel
theorem dX11_wentTo_66 : decode cX11_wentTo 66 = .ok (.iadd, 1) := by decide +kernel
theorem dX11_wentTo_67 : decode cX11_wentTo 67 = .ok (.goto 4, 3) := by decide +kernel
theorem dX11_wentTo_70 : decode cX11_wentTo 70 = .ok (.iconst (-1), 1) := by decide +kernel
theorem dX11_wentTo_71 : decode cX11_wentTo 71 = .ok (.ireturn, 1) := by decide +kernel
theorem dX11_apart_0 : decode cX11_apart 0 = .ok (.iload_n 0, 1) := by decide +kernel
theorem dX11_apart_1 : decode cX11_apart 1 = .ok (.bipush 8, 2) := by decide +kernel
theorem dX11_apart_3 : decode cX11_apart 3 = .ok (.irem, 1) := by decide +kernel
theorem dX11_apart_4 : decode cX11_apart 4 = .ok (.iload_n 1, 1) := by decide +kernel
theorem dX11_apart_5 : decode cX11_apart 5 = .ok (.bipush 8, 2) := by decide +kernel
theorem dX11_apart_7 : decode cX11_apart 7 = .ok (.irem, 1) := by decide +kernel
theorem dX11_apart_8 : decode cX11_apart 8 = .ok (.isub, 1) := by decide +kernel
theorem dX11_apart_9 : decode cX11_apart 9 = .ok (.invokestatic 100, 3) := by decide +kernel
theorem dX11_apart_12 : decode cX11_apart 12 = .ok (.iload_n 0, 1) := by decide +kernel
theorem dX11_apart_13 : decode cX11_apart 13 = .ok (.bipush 8, 2) := by decide +kernel
theorem dX11_apart_15 : decode cX11_apart 15 = .ok (.idiv, 1) := by decide +kernel
theorem dX11_apart_16 : decode cX11_apart 16 = .ok (.iload_n 1, 1) := by decide +kernel
theorem dX11_apart_17 : decode cX11_apart 17 = .ok (.bipush 8, 2) := by decide +kernel
theorem dX11_apart_19 : decode cX11_apart 19 = .ok (.idiv, 1) := by decide +kernel
theorem dX11_apart_20 : decode cX11_apart 20 = .ok (.isub, 1) := by decide +kernel
theorem dX11_apart_21 : decode cX11_apart 21 = .ok (.invokestatic 100, 3) := by decide +kernel
theorem dX11_apart_24 : decode cX11_apart 24 = .ok (.iadd, 1) := by decide +kernel
theorem dX11_apart_25 : decode cX11_apart 25 = .ok (.ireturn, 1) := by decide +kernel
theorem dX11_count_0 : decode cX11_count 0 = .ok (.iconst 0, 1) := by decide +kernel
theorem dX11_count_1 : decode cX11_count 1 = .ok (.istore_n 1, 1) := by decide +kernel
theorem dX11_count_2 : decode cX11_count 2 = .ok (.iconst 0, 1) := by decide +kernel
theorem dX11_count_3 : decode cX11_count 3 = .ok (.istore_n 2, 1) := by decide +kernel
theorem dX11_count_4 : decode cX11_count 4 = .ok (.iload_n 2, 1) := by decide +kernel
theorem dX11_count_5 : decode cX11_count 5 = .ok (.bipush 16, 2) := by decide +kernel
theorem dX11_count_7 : decode cX11_count 7 = .ok (.if_icmp .ge 17, 3) := by decide +kernel
theorem dX11_count_10 : decode cX11_count 10 = .ok (.iload_n 1, 1) := by decide +kernel
theorem dX11_count_11 : decode cX11_count 11 = .ok (.iload_n 0, 1) := by decide +kernel
theorem dX11_count_12 : decode cX11_count 12 = .ok (.iload_n 2, 1) := by decide +kernel
theorem dX11_count_13 : decode cX11_count 13 = .ok (.ishr, 1) := by decide +kernel
theorem dX11_count_14 : decode cX11_count 14 = .ok (.iconst 1, 1) := by decide +kernel
theorem dX11_count_15 : decode cX11_count 15 = .ok (.iand, 1) := by decide +kernel
theorem dX11_count_16 : decode cX11_count 16 = .ok (.iadd, 1) := by decide +kernel
theorem dX11_count_17 : decode cX11_count 17 = .ok (.istore_n 1, 1) := by decide +kernel
theorem dX11_count_18 : decode cX11_count 18 = .ok (.iinc 2 1, 3) := by decide +kernel
theorem dX11_count_21 : decode cX11_count 21 = .ok (.goto (-17), 3) := by decide +kernel
theorem dX11_count_24 : decode cX11_count 24 = .ok (.iload_n 1, 1) := by decide +kernel
theorem dX11_count_25 : decode cX11_count 25 = .ok (.ireturn, 1) := by decide +kernel
theorem dX11_forgets_0 : decode cX11_forgets 0 = .ok (.aload_n 0, 1) := by decide +kernel
theorem dX11_forgets_1 : decode cX11_forgets 1 = .ok (.iconst 0, 1) := by decide +kernel
theorem dX11_forgets_2 : decode cX11_forgets 2 = .ok (.putfield 86, 3) := by decide +kernel
theorem dX11_forgets_5 : decode cX11_forgets 5 = .ok (.return_, 1) := by decide +kernel
theorem dX11_state_0 : decode cX11_state 0 = .ok (.aload_n 0, 1) := by decide +kernel
theorem dX11_state_1 : decode cX11_state 1 = .ok (.getfield 7, 3) := by decide +kernel
theorem dX11_state_4 : decode cX11_state 4 = .ok (.iconst 2, 1) := by decide +kernel
theorem dX11_state_5 : decode cX11_state 5 = .ok (.iaload, 1) := by decide +kernel
theorem dX11_state_6 : decode cX11_state 6 = .ok (.istore_n 2, 1) := by decide +kernel
theorem dX11_state_7 : decode cX11_state 7 = .ok (.aload_n 0, 1) := by decide +kernel
theorem dX11_state_8 : decode cX11_state 8 = .ok (.getfield 7, 3) := by decide +kernel
theorem dX11_state_11 : decode cX11_state 11 = .ok (.iconst 2, 1) := by decide +kernel
theorem dX11_state_12 : decode cX11_state 12 = .ok (.iload_n 1, 1) := by decide +kernel
theorem dX11_state_13 : decode cX11_state 13 = .ok (.iastore, 1) := by decide +kernel
theorem dX11_state_14 : decode cX11_state 14 = .ok (.aload_n 0, 1) := by decide +kernel
theorem dX11_state_15 : decode cX11_state 15 = .ok (.invokevirtual 104, 3) := by decide +kernel
theorem dX11_state_18 : decode cX11_state 18 = .ok (.iload_n 2, 1) := by decide +kernel
theorem dX11_state_19 : decode cX11_state 19 = .ok (.ireturn, 1) := by decide +kernel
theorem dX11_draw_0 : decode cX11_draw 0 = .ok (.aload_n 0, 1) := by decide +kernel
theorem dX11_draw_1 : decode cX11_draw 1 = .ok (.getfield 7, 3) := by decide +kernel
theorem dX11_draw_4 : decode cX11_draw 4 = .ok (.iconst 2, 1) := by decide +kernel
theorem dX11_draw_5 : decode cX11_draw 5 = .ok (.ldc 107, 2) := by decide +kernel
theorem dX11_draw_7 : decode cX11_draw 7 = .ok (.aload_n 0, 1) := by decide +kernel
theorem dX11_draw_8 : decode cX11_draw 8 = .ok (.getfield 7, 3) := by decide +kernel
theorem dX11_draw_11 : decode cX11_draw 11 = .ok (.iconst 2, 1) := by decide +kernel
theorem dX11_draw_12 : decode cX11_draw 12 = .ok (.iaload, 1) := by decide +kernel
theorem dX11_draw_13 : decode cX11_draw 13 = .ok (.imul, 1) := by decide +kernel
theorem dX11_draw_14 : decode cX11_draw 14 = .ok (.ldc 108, 2) := by decide +kernel
theorem dX11_draw_16 : decode cX11_draw 16 = .ok (.iadd, 1) := by decide +kernel
theorem dX11_draw_17 : decode cX11_draw 17 = .ok (.iastore, 1) := by decide +kernel
theorem dX11_draw_18 : decode cX11_draw 18 = .ok (.aload_n 0, 1) := by decide +kernel
theorem dX11_draw_19 : decode cX11_draw 19 = .ok (.getfield 7, 3) := by decide +kernel
theorem dX11_draw_22 : decode cX11_draw 22 = .ok (.iconst 2, 1) := by decide +kernel
theorem dX11_draw_23 : decode cX11_draw 23 = .ok (.iaload, 1) := by decide +kernel
theorem dX11_draw_24 : decode cX11_draw 24 = .ok (.bipush 8, 2) := by decide +kernel
theorem dX11_draw_26 : decode cX11_draw 26 = .ok (.iushr, 1) := by decide +kernel
theorem dX11_draw_27 : decode cX11_draw 27 = .ok (.iload_n 1, 1) := by decide +kernel
theorem dX11_draw_28 : decode cX11_draw 28 = .ok (.irem, 1) := by decide +kernel
theorem dX11_draw_29 : decode cX11_draw 29 = .ok (.ireturn, 1) := by decide +kernel
theorem dX11_valley_0 : decode cX11_valley 0 = .ok (.iload_n 1, 1) := by decide +kernel
theorem dX11_valley_1 : decode cX11_valley 1 = .ok (.iconst 3, 1) := by decide +kernel
theorem dX11_valley_2 : decode cX11_valley 2 = .ok (.bipush 8, 2) := by decide +kernel
theorem dX11_valley_4 : decode cX11_valley 4 = .ok (.invokestatic 89, 3) := by decide +kernel
theorem dX11_valley_7 : decode cX11_valley 7 = .ok (.ifCond .eq 13, 3) := by decide +kernel
theorem dX11_valley_10 : decode cX11_valley 10 = .ok (.iload_n 2, 1) := by decide +kernel
theorem dX11_valley_11 : decode cX11_valley 11 = .ok (.iconst 3, 1) := by decide +kernel
theorem dX11_valley_12 : decode cX11_valley 12 = .ok (.bipush 7, 2) := by decide +kernel
theorem dX11_valley_14 : decode cX11_valley 14 = .ok (.invokestatic 89, 3) := by decide +kernel
theorem dX11_valley_17 : decode cX11_valley 17 = .ok (.ifCond .ne 5, 3) := by decide +kernel
theorem dX11_valley_20 : decode cX11_valley 20 = .ok (.iconst 0, 1) := by decide +kernel
theorem dX11_valley_21 : decode cX11_valley 21 = .ok (.ireturn, 1) := by decide +kernel
theorem dX11_valley_22 : decode cX11_valley 22 = .ok (.aload_n 0, 1) := by decide +kernel
theorem dX11_valley_23 : decode cX11_valley 23 = .ok (.iload_n 1, 1) := by decide +kernel
theorem dX11_valley_24 : decode cX11_valley 24 = .ok (.iload_n 2, 1) := by decide +kernel
theorem dX11_valley_25 : decode cX11_valley 25 = .ok (.invokevirtual 78, 3) := by decide +kernel
theorem dX11_valley_28 : decode cX11_valley 28 = .ok (.iconst 1, 1) := by decide +kernel
theorem dX11_valley_29 : decode cX11_valley 29 = .ok (.ireturn, 1) := by decide +kernel
theorem dX11_person_0 : decode cX11_person 0 = .ok (.iload_n 1, 1) := by decide +kernel
theorem dX11_person_1 : decode cX11_person 1 = .ok (.iconst 0, 1) := by decide +kernel
theorem dX11_person_2 : decode cX11_person 2 = .ok (.iconst 1, 1) := by decide +kernel
theorem dX11_person_3 : decode cX11_person 3 = .ok (.invokestatic 89, 3) := by decide +kernel
theorem dX11_person_6 : decode cX11_person 6 = .ok (.ifCond .eq 44, 3) := by decide +kernel
theorem dX11_person_9 : decode cX11_person 9 = .ok (.iload_n 2, 1) := by decide +kernel
theorem dX11_person_10 : decode cX11_person 10 = .ok (.iconst 0, 1) := by decide +kernel
theorem dX11_person_11 : decode cX11_person 11 = .ok (.bipush 9, 2) := by decide +kernel
theorem dX11_person_13 : decode cX11_person 13 = .ok (.invokestatic 89, 3) := by decide +kernel
theorem dX11_person_16 : decode cX11_person 16 = .ok (.ifCond .eq 34, 3) := by decide +kernel
theorem dX11_person_19 : decode cX11_person 19 = .ok (.iload_n 3, 1) := by decide +kernel
theorem dX11_person_20 : decode cX11_person 20 = .ok (.iconst 0, 1) := by decide +kernel
theorem dX11_person_21 : decode cX11_person 21 = .ok (.bipush 9, 2) := by decide +kernel
theorem dX11_person_23 : decode cX11_person 23 = .ok (.invokestatic 89, 3) := by decide +kernel
theorem dX11_person_26 : decode cX11_person 26 = .ok (.ifCond .eq 24, 3) := by decide +kernel
theorem dX11_person_29 : decode cX11_person 29 = .ok (.aload_n 0, 1) := by decide +kernel
theorem dX11_person_30 : decode cX11_person 30 = .ok (.iload 4, 2) := by decide +kernel
theorem dX11_person_32 : decode cX11_person 32 = .ok (.invokevirtual 82, 3) := by decide +kernel
theorem dX11_person_35 : decode cX11_person 35 = .ok (.ifCond .eq 15, 3) := by decide +kernel
theorem dX11_person_38 : decode cX11_person 38 = .ok (.aload_n 0, 1) := by decide +kernel
theorem dX11_person_39 : decode cX11_person 39 = .ok (.getfield 7, 3) := by decide +kernel
theorem dX11_person_42 : decode cX11_person 42 = .ok (.bipush 85, 2) := by decide +kernel
theorem dX11_person_44 : decode cX11_person 44 = .ok (.iaload, 1) := by decide +kernel
theorem dX11_person_45 : decode cX11_person 45 = .ok (.bipush 12, 2) := by decide +kernel
theorem dX11_person_47 : decode cX11_person 47 = .ok (.if_icmp .ne 5, 3) := by decide +kernel
theorem dX11_person_50 : decode cX11_person 50 = .ok (.iconst (-1), 1) := by decide +kernel
theorem dX11_person_51 : decode cX11_person 51 = .ok (.ireturn, 1) := by decide +kernel
theorem dX11_person_52 : decode cX11_person 52 = .ok (.aload_n 0, 1) := by decide +kernel
theorem dX11_person_53 : decode cX11_person 53 = .ok (.getfield 7, 3) := by decide +kernel
theorem dX11_person_56 : decode cX11_person 56 = .ok (.bipush 85, 2) := by decide +kernel
theorem dX11_person_58 : decode cX11_person 58 = .ok (.iaload, 1) := by decide +kernel
theorem dX11_person_59 : decode cX11_person 59 = .ok (.istore 5, 2) := by decide +kernel
theorem dX11_person_61 : decode cX11_person 61 = .ok (.aload_n 0, 1) := by decide +kernel
theorem dX11_person_62 : decode cX11_person 62 = .ok (.getfield 7, 3) := by decide +kernel
theorem dX11_person_65 : decode cX11_person 65 = .ok (.bipush 91, 2) := by decide +kernel
theorem dX11_person_67 : decode cX11_person 67 = .ok (.iload 5, 2) := by decide +kernel
theorem dX11_person_69 : decode cX11_person 69 = .ok (.iadd, 1) := by decide +kernel
theorem dX11_person_70 : decode cX11_person 70 = .ok (.iload_n 1, 1) := by decide +kernel
theorem dX11_person_71 : decode cX11_person 71 = .ok (.iastore, 1) := by decide +kernel
theorem dX11_person_72 : decode cX11_person 72 = .ok (.aload_n 0, 1) := by decide +kernel
theorem dX11_person_73 : decode cX11_person 73 = .ok (.getfield 7, 3) := by decide +kernel
theorem dX11_person_76 : decode cX11_person 76 = .ok (.bipush 103, 2) := by decide +kernel
theorem dX11_person_78 : decode cX11_person 78 = .ok (.iload 5, 2) := by decide +kernel
theorem dX11_person_80 : decode cX11_person 80 = .ok (.iadd, 1) := by decide +kernel
theorem dX11_person_81 : decode cX11_person 81 = .ok (.iload_n 2, 1) := by decide +kernel
theorem dX11_person_82 : decode cX11_person 82 = .ok (.iastore, 1) := by decide +kernel
theorem dX11_person_83 : decode cX11_person 83 = .ok (.aload_n 0, 1) := by decide +kernel
theorem dX11_person_84 : decode cX11_person 84 = .ok (.getfield 7, 3) := by decide +kernel
theorem dX11_person_87 : decode cX11_person 87 = .ok (.bipush 115, 2) := by decide +kernel
theorem dX11_person_89 : decode cX11_person 89 = .ok (.iload 5, 2) := by decide +kernel
theorem dX11_person_91 : decode cX11_person 91 = .ok (.iadd, 1) := by decide +kernel
theorem dX11_person_92 : decode cX11_person 92 = .ok (.iload_n 3, 1) := by decide +kernel
theorem dX11_person_93 : decode cX11_person 93 = .ok (.iastore, 1) := by decide +kernel
theorem dX11_person_94 : decode cX11_person 94 = .ok (.aload_n 0, 1) := by decide +kernel
theorem dX11_person_95 : decode cX11_person 95 = .ok (.getfield 7, 3) := by decide +kernel
theorem dX11_person_98 : decode cX11_person 98 = .ok (.bipush 127, 2) := by decide +kernel
theorem dX11_person_100 : decode cX11_person 100 = .ok (.iload 5, 2) := by decide +kernel
theorem dX11_person_102 : decode cX11_person 102 = .ok (.iadd, 1) := by decide +kernel
theorem dX11_person_103 : decode cX11_person 103 = .ok (.iload 4, 2) := by decide +kernel
theorem dX11_person_105 : decode cX11_person 105 = .ok (.iastore, 1) := by decide +kernel
theorem dX11_person_106 : decode cX11_person 106 = .ok (.aload_n 0, 1) := by decide +kernel
theorem dX11_person_107 : decode cX11_person 107 = .ok (.getfield 7, 3) := by decide +kernel
theorem dX11_person_110 : decode cX11_person 110 = .ok (.sipush 139, 3) := by decide +kernel
theorem dX11_person_113 : decode cX11_person 113 = .ok (.iload 5, 2) := by decide +kernel
theorem dX11_person_115 : decode cX11_person 115 = .ok (.iadd, 1) := by decide +kernel
theorem dX11_person_116 : decode cX11_person 116 = .ok (.iconst 0, 1) := by decide +kernel
theorem dX11_person_117 : decode cX11_person 117 = .ok (.iastore, 1) := by decide +kernel
theorem dX11_person_118 : decode cX11_person 118 = .ok (.aload_n 0, 1) := by decide +kernel
theorem dX11_person_119 : decode cX11_person 119 = .ok (.getfield 7, 3) := by decide +kernel
theorem dX11_person_122 : decode cX11_person 122 = .ok (.bipush 68, 2) := by decide +kernel
theorem dX11_person_124 : decode cX11_person 124 = .ok (.iload 5, 2) := by decide +kernel
theorem dX11_person_126 : decode cX11_person 126 = .ok (.iadd, 1) := by decide +kernel
theorem dX11_person_127 : decode cX11_person 127 = .ok (.iconst (-1), 1) := by decide +kernel
theorem dX11_person_128 : decode cX11_person 128 = .ok (.iastore, 1) := by decide +kernel
theorem dX11_person_129 : decode cX11_person 129 = .ok (.aload_n 0, 1) := by decide +kernel
theorem dX11_person_130 : decode cX11_person 130 = .ok (.getfield 7, 3) := by decide +kernel
theorem dX11_person_133 : decode cX11_person 133 = .ok (.bipush 85, 2) := by decide +kernel
theorem dX11_person_135 : decode cX11_person 135 = .ok (.dup2, 1) := by decide +kernel
theorem dX11_person_136 : decode cX11_person 136 = .ok (.iaload, 1) := by decide +kernel
theorem dX11_person_137 : decode cX11_person 137 = .ok (.iconst 1, 1) := by decide +kernel
theorem dX11_person_138 : decode cX11_person 138 = .ok (.iadd, 1) := by decide +kernel
theorem dX11_person_139 : decode cX11_person 139 = .ok (.iastore, 1) := by decide +kernel
theorem dX11_person_140 : decode cX11_person 140 = .ok (.aload_n 0, 1) := by decide +kernel
theorem dX11_person_141 : decode cX11_person 141 = .ok (.invokevirtual 104, 3) := by decide +kernel
theorem dX11_person_144 : decode cX11_person 144 = .ok (.iload 5, 2) := by decide +kernel
theorem dX11_person_146 : decode cX11_person 146 = .ok (.ireturn, 1) := by decide +kernel
theorem dX11_canSet_0 : decode cX11_canSet 0 = .ok (.iload_n 1, 1) := by decide +kernel
theorem dX11_canSet_1 : decode cX11_canSet 1 = .ok (.tableswitch 111 0 5 #[39, 46, 54, 63, 87, 87], 39) := by decide +kernel
theorem dX11_canSet_40 : decode cX11_canSet 40 = .ok (.iload_n 3, 1) := by decide +kernel
theorem dX11_canSet_41 : decode cX11_canSet 41 = .ok (.iconst 0, 1) := by decide +kernel
theorem dX11_canSet_42 : decode cX11_canSet 42 = .ok (.iconst 3, 1) := by decide +kernel
theorem dX11_canSet_43 : decode cX11_canSet 43 = .ok (.invokestatic 89, 3) := by decide +kernel
theorem dX11_canSet_46 : decode cX11_canSet 46 = .ok (.ireturn, 1) := by decide +kernel
theorem dX11_canSet_47 : decode cX11_canSet 47 = .ok (.iload_n 3, 1) := by decide +kernel
theorem dX11_canSet_48 : decode cX11_canSet 48 = .ok (.iconst 1, 1) := by decide +kernel
theorem dX11_canSet_49 : decode cX11_canSet 49 = .ok (.bipush 99, 2) := by decide +kernel
theorem dX11_canSet_51 : decode cX11_canSet 51 = .ok (.invokestatic 89, 3) := by decide +kernel
theorem dX11_canSet_54 : decode cX11_canSet 54 = .ok (.ireturn, 1) := by decide +kernel
theorem dX11_canSet_55 : decode cX11_canSet 55 = .ok (.iload_n 3, 1) := by decide +kernel
theorem dX11_canSet_56 : decode cX11_canSet 56 = .ok (.iconst 0, 1) := by decide +kernel
theorem dX11_canSet_57 : decode cX11_canSet 57 = .ok (.sipush 1000, 3) := by decide +kernel
theorem dX11_canSet_60 : decode cX11_canSet 60 = .ok (.invokestatic 89, 3) := by decide +kernel
theorem dX11_canSet_63 : decode cX11_canSet 63 = .ok (.ireturn, 1) := by decide +kernel
theorem dX11_canSet_64 : decode cX11_canSet 64 = .ok (.aload_n 0, 1) := by decide +kernel
theorem dX11_canSet_65 : decode cX11_canSet 65 = .ok (.iload_n 2, 1) := by decide +kernel
theorem dX11_canSet_66 : decode cX11_canSet 66 = .ok (.invokevirtual 82, 3) := by decide +kernel
theorem dX11_canSet_69 : decode cX11_canSet 69 = .ok (.ifCond .eq 17, 3) := by decide +kernel
theorem dX11_canSet_72 : decode cX11_canSet 72 = .ok (.iload_n 3, 1) := by decide +kernel
theorem dX11_canSet_73 : decode cX11_canSet 73 = .ok (.iconst 0, 1) := by decide +kernel
theorem dX11_canSet_74 : decode cX11_canSet 74 = .ok (.bipush 99, 2) := by decide +kernel
theorem dX11_canSet_76 : decode cX11_canSet 76 = .ok (.invokestatic 89, 3) := by decide +kernel
theorem dX11_canSet_79 : decode cX11_canSet 79 = .ok (.ifCond .eq 7, 3) := by decide +kernel
theorem dX11_canSet_82 : decode cX11_canSet 82 = .ok (.iconst 1, 1) := by decide +kernel
theorem dX11_canSet_83 : decode cX11_canSet 83 = .ok (.goto 4, 3) := by decide +kernel
theorem dX11_canSet_86 : decode cX11_canSet 86 = .ok (.iconst 0, 1) := by decide +kernel
theorem dX11_canSet_87 : decode cX11_canSet 87 = .ok (.ireturn, 1) := by decide +kernel
theorem dX11_canSet_88 : decode cX11_canSet 88 = .ok (.aload_n 0, 1) := by decide +kernel
theorem dX11_canSet_89 : decode cX11_canSet 89 = .ok (.iload_n 2, 1) := by decide +kernel
theorem dX11_canSet_90 : decode cX11_canSet 90 = .ok (.invokevirtual 97, 3) := by decide +kernel
theorem dX11_canSet_93 : decode cX11_canSet 93 = .ok (.ifCond .eq 17, 3) := by decide +kernel
theorem dX11_canSet_96 : decode cX11_canSet 96 = .ok (.iload_n 3, 1) := by decide +kernel
theorem dX11_canSet_97 : decode cX11_canSet 97 = .ok (.iconst 0, 1) := by decide +kernel
theorem dX11_canSet_98 : decode cX11_canSet 98 = .ok (.bipush 9, 2) := by decide +kernel
theorem dX11_canSet_100 : decode cX11_canSet 100 = .ok (.invokestatic 89, 3) := by decide +kernel
theorem dX11_canSet_103 : decode cX11_canSet 103 = .ok (.ifCond .eq 7, 3) := by decide +kernel
theorem dX11_canSet_106 : decode cX11_canSet 106 = .ok (.iconst 1, 1) := by decide +kernel
theorem dX11_canSet_107 : decode cX11_canSet 107 = .ok (.goto 4, 3) := by decide +kernel
theorem dX11_canSet_110 : decode cX11_canSet 110 = .ok (.iconst 0, 1) := by decide +kernel
theorem dX11_canSet_111 : decode cX11_canSet 111 = .ok (.ireturn, 1) := by decide +kernel
theorem dX11_canSet_112 : decode cX11_canSet 112 = .ok (.iconst 0, 1) := by decide +kernel
theorem dX11_canSet_113 : decode cX11_canSet 113 = .ok (.ireturn, 1) := by decide +kernel
theorem dX11_placeOf_0 : decode cX11_placeOf 0 = .ok (.iload_n 0, 1) := by decide +kernel
theorem dX11_placeOf_1 : decode cX11_placeOf 1 = .ok (.tableswitch 53 0 4 #[35, 38, 41, 44, 48], 35) := by decide +kernel
theorem dX11_placeOf_36 : decode cX11_placeOf 36 = .ok (.bipush 82, 2) := by decide +kernel
theorem dX11_placeOf_38 : decode cX11_placeOf 38 = .ok (.ireturn, 1) := by decide +kernel
theorem dX11_placeOf_39 : decode cX11_placeOf 39 = .ok (.bipush 83, 2) := by decide +kernel
theorem dX11_placeOf_41 : decode cX11_placeOf 41 = .ok (.ireturn, 1) := by decide +kernel
theorem dX11_placeOf_42 : decode cX11_placeOf 42 = .ok (.bipush 84, 2) := by decide +kernel
theorem dX11_placeOf_44 : decode cX11_placeOf 44 = .ok (.ireturn, 1) := by decide +kernel
theorem dX11_placeOf_45 : decode cX11_placeOf 45 = .ok (.iconst 4, 1) := by decide +kernel
theorem dX11_placeOf_46 : decode cX11_placeOf 46 = .ok (.iload_n 1, 1) := by decide +kernel
theorem dX11_placeOf_47 : decode cX11_placeOf 47 = .ok (.iadd, 1) := by decide +kernel
theorem dX11_placeOf_48 : decode cX11_placeOf 48 = .ok (.ireturn, 1) := by decide +kernel
theorem dX11_placeOf_49 : decode cX11_placeOf 49 = .ok (.bipush 103, 2) := by decide +kernel
theorem dX11_placeOf_51 : decode cX11_placeOf 51 = .ok (.iload_n 1, 1) := by decide +kernel
theorem dX11_placeOf_52 : decode cX11_placeOf 52 = .ok (.iadd, 1) := by decide +kernel
theorem dX11_placeOf_53 : decode cX11_placeOf 53 = .ok (.ireturn, 1) := by decide +kernel
theorem dX11_placeOf_54 : decode cX11_placeOf 54 = .ok (.bipush 115, 2) := by decide +kernel
theorem dX11_placeOf_56 : decode cX11_placeOf 56 = .ok (.iload_n 1, 1) := by decide +kernel
theorem dX11_placeOf_57 : decode cX11_placeOf 57 = .ok (.iadd, 1) := by decide +kernel
theorem dX11_placeOf_58 : decode cX11_placeOf 58 = .ok (.ireturn, 1) := by decide +kernel
theorem dX11_set_0 : decode cX11_set 0 = .ok (.aload_n 0, 1) := by decide +kernel
theorem dX11_set_1 : decode cX11_set 1 = .ok (.iload_n 1, 1) := by decide +kernel
theorem dX11_set_2 : decode cX11_set 2 = .ok (.iload_n 2, 1) := by decide +kernel
theorem dX11_set_3 : decode cX11_set 3 = .ok (.iload_n 3, 1) := by decide +kernel
theorem dX11_set_4 : decode cX11_set 4 = .ok (.invokevirtual 109, 3) := by decide +kernel
theorem dX11_set_7 : decode cX11_set 7 = .ok (.ifCond .ne 5, 3) := by decide +kernel
theorem dX11_set_10 : decode cX11_set 10 = .ok (.iconst 0, 1) := by decide +kernel
theorem dX11_set_11 : decode cX11_set 11 = .ok (.ireturn, 1) := by decide +kernel
theorem dX11_set_12 : decode cX11_set 12 = .ok (.aload_n 0, 1) := by decide +kernel
theorem dX11_set_13 : decode cX11_set 13 = .ok (.getfield 7, 3) := by decide +kernel
theorem dX11_set_16 : decode cX11_set 16 = .ok (.iload_n 1, 1) := by decide +kernel
theorem dX11_set_17 : decode cX11_set 17 = .ok (.iload_n 2, 1) := by decide +kernel
theorem dX11_set_18 : decode cX11_set 18 = .ok (.invokestatic 112, 3) := by decide +kernel
theorem dX11_set_21 : decode cX11_set 21 = .ok (.iload_n 3, 1) := by decide +kernel
theorem dX11_set_22 : decode cX11_set 22 = .ok (.iastore, 1) := by decide +kernel
theorem dX11_set_23 : decode cX11_set 23 = .ok (.aload_n 0, 1) := by decide +kernel
theorem dX11_set_24 : decode cX11_set 24 = .ok (.invokevirtual 104, 3) := by decide +kernel
theorem dX11_set_27 : decode cX11_set 27 = .ok (.iconst 1, 1) := by decide +kernel
theorem dX11_set_28 : decode cX11_set 28 = .ok (.ireturn, 1) := by decide +kernel
theorem dX11_kin_0 : decode cX11_kin 0 = .ok (.aload_n 0, 1) := by decide +kernel
theorem dX11_kin_1 : decode cX11_kin 1 = .ok (.iload_n 1, 1) := by decide +kernel
theorem dX11_kin_2 : decode cX11_kin 2 = .ok (.invokevirtual 97, 3) := by decide +kernel
theorem dX11_kin_5 : decode cX11_kin 5 = .ok (.ifCond .eq 16, 3) := by decide +kernel
theorem dX11_kin_8 : decode cX11_kin 8 = .ok (.aload_n 0, 1) := by decide +kernel
theorem dX11_kin_9 : decode cX11_kin 9 = .ok (.iload_n 2, 1) := by decide +kernel
theorem dX11_kin_10 : decode cX11_kin 10 = .ok (.invokevirtual 97, 3) := by decide +kernel
theorem dX11_kin_13 : decode cX11_kin 13 = .ok (.ifCond .eq 8, 3) := by decide +kernel
theorem dX11_kin_16 : decode cX11_kin 16 = .ok (.iload_n 1, 1) := by decide +kernel
theorem dX11_kin_17 : decode cX11_kin 17 = .ok (.iload_n 2, 1) := by decide +kernel
theorem dX11_kin_18 : decode cX11_kin 18 = .ok (.if_icmp .ne 5, 3) := by decide +kernel
theorem dX11_kin_21 : decode cX11_kin 21 = .ok (.iconst 0, 1) := by decide +kernel
theorem dX11_kin_22 : decode cX11_kin 22 = .ok (.ireturn, 1) := by decide +kernel
theorem dX11_kin_23 : decode cX11_kin 23 = .ok (.aload_n 0, 1) := by decide +kernel
theorem dX11_kin_24 : decode cX11_kin 24 = .ok (.getfield 7, 3) := by decide +kernel
theorem dX11_kin_27 : decode cX11_kin 27 = .ok (.sipush 139, 3) := by decide +kernel
theorem dX11_kin_30 : decode cX11_kin 30 = .ok (.iload_n 1, 1) := by decide +kernel
theorem dX11_kin_31 : decode cX11_kin 31 = .ok (.iadd, 1) := by decide +kernel
theorem dX11_kin_32 : decode cX11_kin 32 = .ok (.iload_n 3, 1) := by decide +kernel
theorem dX11_kin_33 : decode cX11_kin 33 = .ok (.ifCond .eq 20, 3) := by decide +kernel
theorem dX11_kin_36 : decode cX11_kin 36 = .ok (.aload_n 0, 1) := by decide +kernel
theorem dX11_kin_37 : decode cX11_kin 37 = .ok (.getfield 7, 3) := by decide +kernel
theorem dX11_kin_40 : decode cX11_kin 40 = .ok (.sipush 139, 3) := by decide +kernel
theorem dX11_kin_43 : decode cX11_kin 43 = .ok (.iload_n 1, 1) := by decide +kernel
theorem dX11_kin_44 : decode cX11_kin 44 = .ok (.iadd, 1) := by decide +kernel
theorem dX11_kin_45 : decode cX11_kin 45 = .ok (.iaload, 1) := by decide +kernel
theorem dX11_kin_46 : decode cX11_kin 46 = .ok (.iconst 1, 1) := by decide +kernel
theorem dX11_kin_47 : decode cX11_kin 47 = .ok (.iload_n 2, 1) := by decide +kernel
theorem dX11_kin_48 : decode cX11_kin 48 = .ok (.ishl, 1) := by decide +kernel
theorem dX11_kin_49 : decode cX11_kin 49 = .ok (.ior, 1) := by decide +kernel
theorem dX11_kin_50 : decode cX11_kin 50 = .ok (.goto 19, 3) := by decide +kernel
theorem dX11_kin_53 : decode cX11_kin 53 = .ok (.aload_n 0, 1) := by decide +kernel
theorem dX11_kin_54 : decode cX11_kin 54 = .ok (.getfield 7, 3) := by decide +kernel
theorem dX11_kin_57 : decode cX11_kin 57 = .ok (.sipush 139, 3) := by decide +kernel
theorem dX11_kin_60 : decode cX11_kin 60 = .ok (.iload_n 1, 1) := by decide +kernel
theorem dX11_kin_61 : decode cX11_kin 61 = .ok (.iadd, 1) := by decide +kernel
theorem dX11_kin_62 : decode cX11_kin 62 = .ok (.iaload, 1) := by decide +kernel
theorem dX11_kin_63 : decode cX11_kin 63 = .ok (.iconst 1, 1) := by decide +kernel
theorem dX11_kin_64 : decode cX11_kin 64 = .ok (.iload_n 2, 1) := by decide +kernel
theorem dX11_kin_65 : decode cX11_kin 65 = .ok (.ishl, 1) := by decide +kernel
theorem dX11_kin_66 : decode cX11_kin 66 = .ok (.iconst (-1), 1) := by decide +kernel
theorem dX11_kin_67 : decode cX11_kin 67 = .ok (.ixor, 1) := by decide +kernel
theorem dX11_kin_68 : decode cX11_kin 68 = .ok (.iand, 1) := by decide +kernel
theorem dX11_kin_69 : decode cX11_kin 69 = .ok (.iastore, 1) := by decide +kernel
theorem dX11_kin_70 : decode cX11_kin 70 = .ok (.aload_n 0, 1) := by decide +kernel
theorem dX11_kin_71 : decode cX11_kin 71 = .ok (.getfield 7, 3) := by decide +kernel
theorem dX11_kin_74 : decode cX11_kin 74 = .ok (.sipush 139, 3) := by decide +kernel
theorem dX11_kin_77 : decode cX11_kin 77 = .ok (.iload_n 2, 1) := by decide +kernel
theorem dX11_kin_78 : decode cX11_kin 78 = .ok (.iadd, 1) := by decide +kernel
theorem dX11_kin_79 : decode cX11_kin 79 = .ok (.iload_n 3, 1) := by decide +kernel
theorem dX11_kin_80 : decode cX11_kin 80 = .ok (.ifCond .eq 20, 3) := by decide +kernel
theorem dX11_kin_83 : decode cX11_kin 83 = .ok (.aload_n 0, 1) := by decide +kernel
theorem dX11_kin_84 : decode cX11_kin 84 = .ok (.getfield 7, 3) := by decide +kernel
theorem dX11_kin_87 : decode cX11_kin 87 = .ok (.sipush 139, 3) := by decide +kernel
theorem dX11_kin_90 : decode cX11_kin 90 = .ok (.iload_n 2, 1) := by decide +kernel
theorem dX11_kin_91 : decode cX11_kin 91 = .ok (.iadd, 1) := by decide +kernel
theorem dX11_kin_92 : decode cX11_kin 92 = .ok (.iaload, 1) := by decide +kernel
theorem dX11_kin_93 : decode cX11_kin 93 = .ok (.iconst 1, 1) := by decide +kernel
theorem dX11_kin_94 : decode cX11_kin 94 = .ok (.iload_n 1, 1) := by decide +kernel
theorem dX11_kin_95 : decode cX11_kin 95 = .ok (.ishl, 1) := by decide +kernel
theorem dX11_kin_96 : decode cX11_kin 96 = .ok (.ior, 1) := by decide +kernel
theorem dX11_kin_97 : decode cX11_kin 97 = .ok (.goto 19, 3) := by decide +kernel
theorem dX11_kin_100 : decode cX11_kin 100 = .ok (.aload_n 0, 1) := by decide +kernel
theorem dX11_kin_101 : decode cX11_kin 101 = .ok (.getfield 7, 3) := by decide +kernel
theorem dX11_kin_104 : decode cX11_kin 104 = .ok (.sipush 139, 3) := by decide +kernel
theorem dX11_kin_107 : decode cX11_kin 107 = .ok (.iload_n 2, 1) := by decide +kernel
theorem dX11_kin_108 : decode cX11_kin 108 = .ok (.iadd, 1) := by decide +kernel
theorem dX11_kin_109 : decode cX11_kin 109 = .ok (.iaload, 1) := by decide +kernel
theorem dX11_kin_110 : decode cX11_kin 110 = .ok (.iconst 1, 1) := by decide +kernel
theorem dX11_kin_111 : decode cX11_kin 111 = .ok (.iload_n 1, 1) := by decide +kernel
theorem dX11_kin_112 : decode cX11_kin 112 = .ok (.ishl, 1) := by decide +kernel
theorem dX11_kin_113 : decode cX11_kin 113 = .ok (.iconst (-1), 1) := by decide +kernel
theorem dX11_kin_114 : decode cX11_kin 114 = .ok (.ixor, 1) := by decide +kernel
theorem dX11_kin_115 : decode cX11_kin 115 = .ok (.iand, 1) := by decide +kernel
theorem dX11_kin_116 : decode cX11_kin 116 = .ok (.iastore, 1) := by decide +kernel
theorem dX11_kin_117 : decode cX11_kin 117 = .ok (.aload_n 0, 1) := by decide +kernel
theorem dX11_kin_118 : decode cX11_kin 118 = .ok (.invokevirtual 104, 3) := by decide +kernel
theorem dX11_kin_121 : decode cX11_kin 121 = .ok (.iconst 1, 1) := by decide +kernel
theorem dX11_kin_122 : decode cX11_kin 122 = .ok (.ireturn, 1) := by decide +kernel
theorem dX11_feed_0 : decode cX11_feed 0 = .ok (.aload_n 0, 1) := by decide +kernel
theorem dX11_feed_1 : decode cX11_feed 1 = .ok (.getfield 116, 3) := by decide +kernel
theorem dX11_feed_4 : decode cX11_feed 4 = .ok (.bipush 20, 2) := by decide +kernel
theorem dX11_feed_6 : decode cX11_feed 6 = .ok (.iadd, 1) := by decide +kernel
theorem dX11_feed_7 : decode cX11_feed 7 = .ok (.sipush 400, 3) := by decide +kernel
theorem dX11_feed_10 : decode cX11_feed 10 = .ok (.if_icmp .le 5, 3) := by decide +kernel
theorem dX11_feed_13 : decode cX11_feed 13 = .ok (.iconst (-1), 1) := by decide +kernel
theorem dX11_feed_14 : decode cX11_feed 14 = .ok (.ireturn, 1) := by decide +kernel
theorem dX11_feed_15 : decode cX11_feed 15 = .ok (.iconst 0, 1) := by decide +kernel
theorem dX11_feed_16 : decode cX11_feed 16 = .ok (.istore 6, 2) := by decide +kernel
theorem dX11_feed_18 : decode cX11_feed 18 = .ok (.iload 6, 2) := by decide +kernel
theorem dX11_feed_20 : decode cX11_feed 20 = .ok (.bipush 20, 2) := by decide +kernel
theorem dX11_feed_22 : decode cX11_feed 22 = .ok (.if_icmp .ge 93, 3) := by decide +kernel
theorem dX11_feed_25 : decode cX11_feed 25 = .ok (.iload 6, 2) := by decide +kernel
theorem dX11_feed_27 : decode cX11_feed 27 = .ok (.iconst 4, 1) := by decide +kernel
theorem dX11_feed_28 : decode cX11_feed 28 = .ok (.if_icmp .ge 7, 3) := by decide +kernel
theorem dX11_feed_31 : decode cX11_feed 31 = .ok (.iload_n 1, 1) := by decide +kernel
theorem dX11_feed_32 : decode cX11_feed 32 = .ok (.goto 39, 3) := by decide +kernel
theorem dX11_feed_35 : decode cX11_feed 35 = .ok (.iload 6, 2) := by decide +kernel
theorem dX11_feed_37 : decode cX11_feed 37 = .ok (.bipush 8, 2) := by decide +kernel
theorem dX11_feed_39 : decode cX11_feed 39 = .ok (.if_icmp .ge 7, 3) := by decide +kernel
theorem dX11_feed_42 : decode cX11_feed 42 = .ok (.iload_n 2, 1) := by decide +kernel
theorem dX11_feed_43 : decode cX11_feed 43 = .ok (.goto 28, 3) := by decide +kernel
theorem dX11_feed_46 : decode cX11_feed 46 = .ok (.iload 6, 2) := by decide +kernel
theorem dX11_feed_48 : decode cX11_feed 48 = .ok (.bipush 12, 2) := by decide +kernel
theorem dX11_feed_50 : decode cX11_feed 50 = .ok (.if_icmp .ge 7, 3) := by decide +kernel
theorem dX11_feed_53 : decode cX11_feed 53 = .ok (.iload_n 3, 1) := by decide +kernel
theorem dX11_feed_54 : decode cX11_feed 54 = .ok (.goto 17, 3) := by decide +kernel
theorem dX11_feed_57 : decode cX11_feed 57 = .ok (.iload 6, 2) := by decide +kernel
theorem dX11_feed_59 : decode cX11_feed 59 = .ok (.bipush 16, 2) := by decide +kernel
theorem dX11_feed_61 : decode cX11_feed 61 = .ok (.if_icmp .ge 8, 3) := by decide +kernel
theorem dX11_feed_64 : decode cX11_feed 64 = .ok (.iload 4, 2) := by decide +kernel
theorem dX11_feed_66 : decode cX11_feed 66 = .ok (.goto 5, 3) := by decide +kernel
theorem dX11_feed_69 : decode cX11_feed 69 = .ok (.iload 5, 2) := by decide +kernel
theorem dX11_feed_71 : decode cX11_feed 71 = .ok (.istore 7, 2) := by decide +kernel
theorem dX11_feed_73 : decode cX11_feed 73 = .ok (.aload_n 0, 1) := by decide +kernel
theorem dX11_feed_74 : decode cX11_feed 74 = .ok (.getfield 31, 3) := by decide +kernel
theorem dX11_feed_77 : decode cX11_feed 77 = .ok (.aload_n 0, 1) := by decide +kernel
theorem dX11_feed_78 : decode cX11_feed 78 = .ok (.getfield 116, 3) := by decide +kernel
theorem dX11_feed_81 : decode cX11_feed 81 = .ok (.iload 7, 2) := by decide +kernel
theorem dX11_feed_83 : decode cX11_feed 83 = .ok (.bipush 24, 2) := by decide +kernel
theorem dX11_feed_85 : decode cX11_feed 85 = .ok (.bipush 8, 2) := by decide +kernel
theorem dX11_feed_87 : decode cX11_feed 87 = .ok (.iload 6, 2) := by decide +kernel
theorem dX11_feed_89 : decode cX11_feed 89 = .ok (.iconst 4, 1) := by decide +kernel
theorem dX11_feed_90 : decode cX11_feed 90 = .ok (.irem, 1) := by decide +kernel
theorem dX11_feed_91 : decode cX11_feed 91 = .ok (.imul, 1) := by decide +kernel
theorem dX11_feed_92 : decode cX11_feed 92 = .ok (.isub, 1) := by decide +kernel
theorem dX11_feed_93 : decode cX11_feed 93 = .ok (.ishr, 1) := by decide +kernel
theorem dX11_feed_94 : decode cX11_feed 94 = .ok (.sipush 255, 3) := by decide +kernel
theorem dX11_feed_97 : decode cX11_feed 97 = .ok (.iand, 1) := by decide +kernel
theorem dX11_feed_98 : decode cX11_feed 98 = .ok (.iastore, 1) := by decide +kernel
theorem dX11_feed_99 : decode cX11_feed 99 = .ok (.aload_n 0, 1) := by decide +kernel
theorem dX11_feed_100 : decode cX11_feed 100 = .ok (.dup, 1) := by decide +kernel
theorem dX11_feed_101 : decode cX11_feed 101 = .ok (.getfield 116, 3) := by decide +kernel
theorem dX11_feed_104 : decode cX11_feed 104 = .ok (.iconst 1, 1) := by decide +kernel
theorem dX11_feed_105 : decode cX11_feed 105 = .ok (.iadd, 1) := by decide +kernel
theorem dX11_feed_106 : decode cX11_feed 106 = .ok (.putfield 116, 3) := by decide +kernel
theorem dX11_feed_109 : decode cX11_feed 109 = .ok (.iinc 6 1, 3) := by decide +kernel
theorem dX11_feed_112 : decode cX11_feed 112 = .ok (.goto (-94), 3) := by decide +kernel
theorem dX11_feed_115 : decode cX11_feed 115 = .ok (.aload_n 0, 1) := by decide +kernel
theorem dX11_feed_116 : decode cX11_feed 116 = .ok (.getfield 116, 3) := by decide +kernel
theorem dX11_feed_119 : decode cX11_feed 119 = .ok (.ireturn, 1) := by decide +kernel
theorem dX11_end_0 : decode cX11_end 0 = .ok (.iload_n 1, 1) := by decide +kernel
theorem dX11_end_1 : decode cX11_end 1 = .ok (.iconst 0, 1) := by decide +kernel
theorem dX11_end_2 : decode cX11_end 2 = .ok (.aload_n 0, 1) := by decide +kernel
theorem dX11_end_3 : decode cX11_end 3 = .ok (.getfield 116, 3) := by decide +kernel
theorem dX11_end_6 : decode cX11_end 6 = .ok (.invokestatic 89, 3) := by decide +kernel
theorem dX11_end_9 : decode cX11_end 9 = .ok (.ifCond .ne 5, 3) := by decide +kernel
theorem dX11_end_12 : decode cX11_end 12 = .ok (.iconst 0, 1) := by decide +kernel
theorem dX11_end_13 : decode cX11_end 13 = .ok (.ireturn, 1) := by decide +kernel
theorem dX11_end_14 : decode cX11_end 14 = .ok (.aload_n 0, 1) := by decide +kernel
theorem dX11_end_15 : decode cX11_end 15 = .ok (.iload_n 1, 1) := by decide +kernel
theorem dX11_end_16 : decode cX11_end 16 = .ok (.putfield 116, 3) := by decide +kernel
theorem dX11_end_19 : decode cX11_end 19 = .ok (.iconst 1, 1) := by decide +kernel
theorem dX11_end_20 : decode cX11_end 20 = .ok (.ireturn, 1) := by decide +kernel
theorem dX11_see_0 : decode cX11_see 0 = .ok (.iload_n 1, 1) := by decide +kernel
theorem dX11_see_1 : decode cX11_see 1 = .ok (.aload_n 0, 1) := by decide +kernel
theorem dX11_see_2 : decode cX11_see 2 = .ok (.getfield 116, 3) := by decide +kernel
theorem dX11_see_5 : decode cX11_see 5 = .ok (.if_icmp .ge 12, 3) := by decide +kernel
theorem dX11_see_8 : decode cX11_see 8 = .ok (.aload_n 0, 1) := by decide +kernel
theorem dX11_see_9 : decode cX11_see 9 = .ok (.getfield 31, 3) := by decide +kernel
theorem dX11_see_12 : decode cX11_see 12 = .ok (.iload_n 1, 1) := by decide +kernel
theorem dX11_see_13 : decode cX11_see 13 = .ok (.iaload, 1) := by decide +kernel
theorem dX11_see_14 : decode cX11_see 14 = .ok (.goto 4, 3) := by decide +kernel
theorem dX11_see_17 : decode cX11_see 17 = .ok (.iconst (-1), 1) := by decide +kernel
theorem dX11_see_18 : decode cX11_see 18 = .ok (.ireturn, 1) := by decide +kernel
theorem dX11_isLetter_0 : decode cX11_isLetter 0 = .ok (.iload_n 0, 1) := by decide +kernel
theorem dX11_isLetter_1 : decode cX11_isLetter 1 = .ok (.bipush 97, 2) := by decide +kernel
theorem dX11_isLetter_3 : decode cX11_isLetter 3 = .ok (.bipush 122, 2) := by decide +kernel
theorem dX11_isLetter_5 : decode cX11_isLetter 5 = .ok (.invokestatic 89, 3) := by decide +kernel
theorem dX11_isLetter_8 : decode cX11_isLetter 8 = .ok (.ifCond .ne 14, 3) := by decide +kernel
theorem dX11_isLetter_11 : decode cX11_isLetter 11 = .ok (.iload_n 0, 1) := by decide +kernel
theorem dX11_isLetter_12 : decode cX11_isLetter 12 = .ok (.bipush 65, 2) := by decide +kernel
theorem dX11_isLetter_14 : decode cX11_isLetter 14 = .ok (.bipush 90, 2) := by decide +kernel
theorem dX11_isLetter_16 : decode cX11_isLetter 16 = .ok (.invokestatic 89, 3) := by decide +kernel
theorem dX11_isLetter_19 : decode cX11_isLetter 19 = .ok (.ifCond .eq 7, 3) := by decide +kernel
theorem dX11_isLetter_22 : decode cX11_isLetter 22 = .ok (.iconst 1, 1) := by decide +kernel
theorem dX11_isLetter_23 : decode cX11_isLetter 23 = .ok (.goto 4, 3) := by decide +kernel
theorem dX11_isLetter_26 : decode cX11_isLetter 26 = .ok (.iconst 0, 1) := by decide +kernel
theorem dX11_isLetter_27 : decode cX11_isLetter 27 = .ok (.ireturn, 1) := by decide +kernel
theorem dX11_isDigit_0 : decode cX11_isDigit 0 = .ok (.iload_n 0, 1) := by decide +kernel
theorem dX11_isDigit_1 : decode cX11_isDigit 1 = .ok (.bipush 48, 2) := by decide +kernel
theorem dX11_isDigit_3 : decode cX11_isDigit 3 = .ok (.bipush 57, 2) := by decide +kernel
theorem dX11_isDigit_5 : decode cX11_isDigit 5 = .ok (.invokestatic 89, 3) := by decide +kernel
theorem dX11_isDigit_8 : decode cX11_isDigit 8 = .ok (.ireturn, 1) := by decide +kernel
theorem dX11_is_0 : decode cX11_is 0 = .ok (.aload_n 0, 1) := by decide +kernel
theorem dX11_is_1 : decode cX11_is 1 = .ok (.getfield 119, 3) := by decide +kernel
theorem dX11_is_4 : decode cX11_is 4 = .ok (.aload_n 0, 1) := by decide +kernel
theorem dX11_is_5 : decode cX11_is 5 = .ok (.getfield 122, 3) := by decide +kernel
theorem dX11_is_8 : decode cX11_is 8 = .ok (.isub, 1) := by decide +kernel
theorem dX11_is_9 : decode cX11_is 9 = .ok (.aload_n 1, 1) := by decide +kernel
theorem dX11_is_10 : decode cX11_is 10 = .ok (.invokevirtual 125, 3) := by decide +kernel
theorem dX11_is_13 : decode cX11_is 13 = .ok (.if_icmp .ne 7, 3) := by decide +kernel
theorem dX11_is_16 : decode cX11_is 16 = .ok (.iconst 1, 1) := by decide +kernel
theorem dX11_is_17 : decode cX11_is 17 = .ok (.goto 4, 3) := by decide +kernel
theorem dX11_is_20 : decode cX11_is 20 = .ok (.iconst 0, 1) := by decide +kernel
theorem dX11_is_21 : decode cX11_is 21 = .ok (.istore_n 2, 1) := by decide +kernel
theorem dX11_is_22 : decode cX11_is 22 = .ok (.iconst 0, 1) := by decide +kernel
theorem dX11_is_23 : decode cX11_is 23 = .ok (.istore_n 3, 1) := by decide +kernel
theorem dX11_is_24 : decode cX11_is 24 = .ok (.iload_n 3, 1) := by decide +kernel
theorem dX11_is_25 : decode cX11_is 25 = .ok (.aload_n 1, 1) := by decide +kernel
theorem dX11_is_26 : decode cX11_is 26 = .ok (.invokevirtual 125, 3) := by decide +kernel
theorem dX11_is_29 : decode cX11_is 29 = .ok (.if_icmp .ge 38, 3) := by decide +kernel
theorem dX11_is_32 : decode cX11_is 32 = .ok (.iload_n 2, 1) := by decide +kernel
theorem dX11_is_33 : decode cX11_is 33 = .ok (.ifCond .eq 34, 3) := by decide +kernel
theorem dX11_is_36 : decode cX11_is 36 = .ok (.aload_n 0, 1) := by decide +kernel
theorem dX11_is_37 : decode cX11_is 37 = .ok (.getfield 31, 3) := by decide +kernel
theorem dX11_is_40 : decode cX11_is 40 = .ok (.aload_n 0, 1) := by decide +kernel
theorem dX11_is_41 : decode cX11_is 41 = .ok (.getfield 122, 3) := by decide +kernel
theorem dX11_is_44 : decode cX11_is 44 = .ok (.iload_n 3, 1) := by decide +kernel
theorem dX11_is_45 : decode cX11_is 45 = .ok (.iadd, 1) := by decide +kernel
theorem dX11_is_46 : decode cX11_is 46 = .ok (.iaload, 1) := by decide +kernel
theorem dX11_is_47 : decode cX11_is 47 = .ok (.aload_n 1, 1) := by decide +kernel
theorem dX11_is_48 : decode cX11_is 48 = .ok (.iload_n 3, 1) := by decide +kernel
theorem dX11_is_49 : decode cX11_is 49 = .ok (.invokevirtual 131, 3) := by decide +kernel
theorem dX11_is_52 : decode cX11_is 52 = .ok (.if_icmp .ne 7, 3) := by decide +kernel
theorem dX11_is_55 : decode cX11_is 55 = .ok (.iconst 1, 1) := by decide +kernel
theorem dX11_is_56 : decode cX11_is 56 = .ok (.goto 4, 3) := by decide +kernel
theorem dX11_is_59 : decode cX11_is 59 = .ok (.iconst 0, 1) := by decide +kernel
theorem dX11_is_60 : decode cX11_is 60 = .ok (.istore_n 2, 1) := by decide +kernel
theorem dX11_is_61 : decode cX11_is 61 = .ok (.iinc 3 1, 3) := by decide +kernel
theorem dX11_is_64 : decode cX11_is 64 = .ok (.goto (-40), 3) := by decide +kernel
theorem dX11_is_67 : decode cX11_is 67 = .ok (.iload_n 2, 1) := by decide +kernel
theorem dX11_is_68 : decode cX11_is 68 = .ok (.ireturn, 1) := by decide +kernel
theorem dX11_asked_0 : decode cX11_asked 0 = .ok (.aload_n 0, 1) := by decide +kernel
theorem dX11_asked_1 : decode cX11_asked 1 = .ok (.ldc 135, 2) := by decide +kernel
theorem dX11_asked_3 : decode cX11_asked 3 = .ok (.invokevirtual 137, 3) := by decide +kernel
theorem dX11_asked_6 : decode cX11_asked 6 = .ok (.ifCond .eq 6, 3) := by decide +kernel
theorem dX11_asked_9 : decode cX11_asked 9 = .ok (.bipush 41, 2) := by decide +kernel
theorem dX11_asked_11 : decode cX11_asked 11 = .ok (.ireturn, 1) := by decide +kernel
theorem dX11_asked_12 : decode cX11_asked 12 = .ok (.aload_n 0, 1) := by decide +kernel
theorem dX11_asked_13 : decode cX11_asked 13 = .ok (.ldc 141, 2) := by decide +kernel
theorem dX11_asked_15 : decode cX11_asked 15 = .ok (.invokevirtual 137, 3) := by decide +kernel
theorem dX11_asked_18 : decode cX11_asked 18 = .ok (.ifCond .eq 6, 3) := by decide +kernel
theorem dX11_asked_21 : decode cX11_asked 21 = .ok (.bipush 42, 2) := by decide +kernel
theorem dX11_asked_23 : decode cX11_asked 23 = .ok (.ireturn, 1) := by decide +kernel
theorem dX11_asked_24 : decode cX11_asked 24 = .ok (.aload_n 0, 1) := by decide +kernel
theorem dX11_asked_25 : decode cX11_asked 25 = .ok (.ldc 143, 2) := by decide +kernel
theorem dX11_asked_27 : decode cX11_asked 27 = .ok (.invokevirtual 137, 3) := by decide +kernel
theorem dX11_asked_30 : decode cX11_asked 30 = .ok (.ifCond .eq 6, 3) := by decide +kernel
theorem dX11_asked_33 : decode cX11_asked 33 = .ok (.bipush 43, 2) := by decide +kernel
theorem dX11_asked_35 : decode cX11_asked 35 = .ok (.ireturn, 1) := by decide +kernel
theorem dX11_asked_36 : decode cX11_asked 36 = .ok (.aload_n 0, 1) := by decide +kernel
theorem dX11_asked_37 : decode cX11_asked 37 = .ok (.ldc 145, 2) := by decide +kernel
theorem dX11_asked_39 : decode cX11_asked 39 = .ok (.invokevirtual 137, 3) := by decide +kernel
theorem dX11_asked_42 : decode cX11_asked 42 = .ok (.ifCond .eq 6, 3) := by decide +kernel
theorem dX11_asked_45 : decode cX11_asked 45 = .ok (.bipush 44, 2) := by decide +kernel
theorem dX11_asked_47 : decode cX11_asked 47 = .ok (.ireturn, 1) := by decide +kernel
theorem dX11_asked_48 : decode cX11_asked 48 = .ok (.aload_n 0, 1) := by decide +kernel
theorem dX11_asked_49 : decode cX11_asked 49 = .ok (.ldc 147, 2) := by decide +kernel
theorem dX11_asked_51 : decode cX11_asked 51 = .ok (.invokevirtual 137, 3) := by decide +kernel
theorem dX11_asked_54 : decode cX11_asked 54 = .ok (.ifCond .eq 6, 3) := by decide +kernel
theorem dX11_asked_57 : decode cX11_asked 57 = .ok (.bipush 45, 2) := by decide +kernel
theorem dX11_asked_59 : decode cX11_asked 59 = .ok (.ireturn, 1) := by decide +kernel
theorem dX11_asked_60 : decode cX11_asked 60 = .ok (.aload_n 0, 1) := by decide +kernel
theorem dX11_asked_61 : decode cX11_asked 61 = .ok (.ldc 149, 2) := by decide +kernel
theorem dX11_asked_63 : decode cX11_asked 63 = .ok (.invokevirtual 137, 3) := by decide +kernel
theorem dX11_asked_66 : decode cX11_asked 66 = .ok (.ifCond .eq 6, 3) := by decide +kernel
theorem dX11_asked_69 : decode cX11_asked 69 = .ok (.bipush 46, 2) := by decide +kernel
theorem dX11_asked_71 : decode cX11_asked 71 = .ok (.ireturn, 1) := by decide +kernel
theorem dX11_asked_72 : decode cX11_asked 72 = .ok (.aload_n 0, 1) := by decide +kernel
theorem dX11_asked_73 : decode cX11_asked 73 = .ok (.ldc 151, 2) := by decide +kernel
theorem dX11_asked_75 : decode cX11_asked 75 = .ok (.invokevirtual 137, 3) := by decide +kernel
theorem dX11_asked_78 : decode cX11_asked 78 = .ok (.ifCond .eq 6, 3) := by decide +kernel
theorem dX11_asked_81 : decode cX11_asked 81 = .ok (.bipush 47, 2) := by decide +kernel
theorem dX11_asked_83 : decode cX11_asked 83 = .ok (.ireturn, 1) := by decide +kernel
theorem dX11_asked_84 : decode cX11_asked 84 = .ok (.aload_n 0, 1) := by decide +kernel
theorem dX11_asked_85 : decode cX11_asked 85 = .ok (.ldc 153, 2) := by decide +kernel
theorem dX11_asked_87 : decode cX11_asked 87 = .ok (.invokevirtual 137, 3) := by decide +kernel
theorem dX11_asked_90 : decode cX11_asked 90 = .ok (.ifCond .eq 6, 3) := by decide +kernel
theorem dX11_asked_93 : decode cX11_asked 93 = .ok (.bipush 48, 2) := by decide +kernel
theorem dX11_asked_95 : decode cX11_asked 95 = .ok (.ireturn, 1) := by decide +kernel
theorem dX11_asked_96 : decode cX11_asked 96 = .ok (.aload_n 0, 1) := by decide +kernel
theorem dX11_asked_97 : decode cX11_asked 97 = .ok (.ldc 155, 2) := by decide +kernel
theorem dX11_asked_99 : decode cX11_asked 99 = .ok (.invokevirtual 137, 3) := by decide +kernel
theorem dX11_asked_102 : decode cX11_asked 102 = .ok (.ifCond .eq 6, 3) := by decide +kernel
theorem dX11_asked_105 : decode cX11_asked 105 = .ok (.bipush 49, 2) := by decide +kernel
theorem dX11_asked_107 : decode cX11_asked 107 = .ok (.ireturn, 1) := by decide +kernel
theorem dX11_asked_108 : decode cX11_asked 108 = .ok (.aload_n 0, 1) := by decide +kernel
theorem dX11_asked_109 : decode cX11_asked 109 = .ok (.ldc 156, 2) := by decide +kernel
theorem dX11_asked_111 : decode cX11_asked 111 = .ok (.invokevirtual 137, 3) := by decide +kernel
theorem dX11_asked_114 : decode cX11_asked 114 = .ok (.ifCond .eq 8, 3) := by decide +kernel
theorem dX11_asked_117 : decode cX11_asked 117 = .ok (.bipush 50, 2) := by decide +kernel
theorem dX11_asked_119 : decode cX11_asked 119 = .ok (.goto 4, 3) := by decide +kernel
theorem dX11_asked_122 : decode cX11_asked 122 = .ok (.iconst 1, 1) := by decide +kernel
theorem dX11_asked_123 : decode cX11_asked 123 = .ok (.ireturn, 1) := by decide +kernel
theorem dX11_lawWord_0 : decode cX11_lawWord 0 = .ok (.aload_n 0, 1) := by decide +kernel
theorem dX11_lawWord_1 : decode cX11_lawWord 1 = .ok (.ldc 158, 2) := by decide +kernel
theorem dX11_lawWord_3 : decode cX11_lawWord 3 = .ok (.invokevirtual 137, 3) := by decide +kernel
theorem dX11_lawWord_6 : decode cX11_lawWord 6 = .ok (.ifCond .eq 5, 3) := by decide +kernel
theorem dX11_lawWord_9 : decode cX11_lawWord 9 = .ok (.iconst 3, 1) := by decide +kernel
theorem dX11_lawWord_10 : decode cX11_lawWord 10 = .ok (.ireturn, 1) := by decide +kernel
theorem dX11_lawWord_11 : decode cX11_lawWord 11 = .ok (.aload_n 0, 1) := by decide +kernel
theorem dX11_lawWord_12 : decode cX11_lawWord 12 = .ok (.ldc 160, 2) := by decide +kernel
theorem dX11_lawWord_14 : decode cX11_lawWord 14 = .ok (.invokevirtual 137, 3) := by decide +kernel
theorem dX11_lawWord_17 : decode cX11_lawWord 17 = .ok (.ifCond .eq 5, 3) := by decide +kernel
theorem dX11_lawWord_20 : decode cX11_lawWord 20 = .ok (.iconst 4, 1) := by decide +kernel
theorem dX11_lawWord_21 : decode cX11_lawWord 21 = .ok (.ireturn, 1) := by decide +kernel
theorem dX11_lawWord_22 : decode cX11_lawWord 22 = .ok (.aload_n 0, 1) := by decide +kernel
theorem dX11_lawWord_23 : decode cX11_lawWord 23 = .ok (.ldc 162, 2) := by decide +kernel
theorem dX11_lawWord_25 : decode cX11_lawWord 25 = .ok (.invokevirtual 137, 3) := by decide +kernel
theorem dX11_lawWord_28 : decode cX11_lawWord 28 = .ok (.ifCond .eq 5, 3) := by decide +kernel
theorem dX11_lawWord_31 : decode cX11_lawWord 31 = .ok (.iconst 5, 1) := by decide +kernel
theorem dX11_lawWord_32 : decode cX11_lawWord 32 = .ok (.ireturn, 1) := by decide +kernel
theorem dX11_lawWord_33 : decode cX11_lawWord 33 = .ok (.aload_n 0, 1) := by decide +kernel
theorem dX11_lawWord_34 : decode cX11_lawWord 34 = .ok (.ldc 164, 2) := by decide +kernel
theorem dX11_lawWord_36 : decode cX11_lawWord 36 = .ok (.invokevirtual 137, 3) := by decide +kernel
theorem dX11_lawWord_39 : decode cX11_lawWord 39 = .ok (.ifCond .eq 6, 3) := by decide +kernel
theorem dX11_lawWord_42 : decode cX11_lawWord 42 = .ok (.bipush 6, 2) := by decide +kernel
theorem dX11_lawWord_44 : decode cX11_lawWord 44 = .ok (.ireturn, 1) := by decide +kernel
theorem dX11_lawWord_45 : decode cX11_lawWord 45 = .ok (.aload_n 0, 1) := by decide +kernel
theorem dX11_lawWord_46 : decode cX11_lawWord 46 = .ok (.ldc 166, 2) := by decide +kernel
theorem dX11_lawWord_48 : decode cX11_lawWord 48 = .ok (.invokevirtual 137, 3) := by decide +kernel
theorem dX11_lawWord_51 : decode cX11_lawWord 51 = .ok (.ifCond .eq 6, 3) := by decide +kernel
theorem dX11_lawWord_54 : decode cX11_lawWord 54 = .ok (.bipush 20, 2) := by decide +kernel
theorem dX11_lawWord_56 : decode cX11_lawWord 56 = .ok (.ireturn, 1) := by decide +kernel
theorem dX11_lawWord_57 : decode cX11_lawWord 57 = .ok (.aload_n 0, 1) := by decide +kernel
theorem dX11_lawWord_58 : decode cX11_lawWord 58 = .ok (.ldc 168, 2) := by decide +kernel
theorem dX11_lawWord_60 : decode cX11_lawWord 60 = .ok (.invokevirtual 137, 3) := by decide +kernel
theorem dX11_lawWord_63 : decode cX11_lawWord 63 = .ok (.ifCond .eq 6, 3) := by decide +kernel
theorem dX11_lawWord_66 : decode cX11_lawWord 66 = .ok (.bipush 21, 2) := by decide +kernel
theorem dX11_lawWord_68 : decode cX11_lawWord 68 = .ok (.ireturn, 1) := by decide +kernel
theorem dX11_lawWord_69 : decode cX11_lawWord 69 = .ok (.aload_n 0, 1) := by decide +kernel
theorem dX11_lawWord_70 : decode cX11_lawWord 70 = .ok (.ldc 170, 2) := by decide +kernel
theorem dX11_lawWord_72 : decode cX11_lawWord 72 = .ok (.invokevirtual 137, 3) := by decide +kernel
theorem dX11_lawWord_75 : decode cX11_lawWord 75 = .ok (.ifCond .eq 8, 3) := by decide +kernel
theorem dX11_lawWord_78 : decode cX11_lawWord 78 = .ok (.bipush 22, 2) := by decide +kernel
theorem dX11_lawWord_80 : decode cX11_lawWord 80 = .ok (.goto 7, 3) := by decide +kernel
theorem dX11_lawWord_83 : decode cX11_lawWord 83 = .ok (.aload_n 0, 1) := by decide +kernel
theorem dX11_lawWord_84 : decode cX11_lawWord 84 = .ok (.invokevirtual 172, 3) := by decide +kernel
theorem dX11_lawWord_87 : decode cX11_lawWord 87 = .ok (.ireturn, 1) := by decide +kernel
theorem dX11_vowWord_0 : decode cX11_vowWord 0 = .ok (.aload_n 0, 1) := by decide +kernel
theorem dX11_vowWord_1 : decode cX11_vowWord 1 = .ok (.ldc 174, 2) := by decide +kernel
theorem dX11_vowWord_3 : decode cX11_vowWord 3 = .ok (.invokevirtual 137, 3) := by decide +kernel
theorem dX11_vowWord_6 : decode cX11_vowWord 6 = .ok (.ifCond .eq 6, 3) := by decide +kernel
theorem dX11_vowWord_9 : decode cX11_vowWord 9 = .ok (.bipush 7, 2) := by decide +kernel
theorem dX11_vowWord_11 : decode cX11_vowWord 11 = .ok (.ireturn, 1) := by decide +kernel
theorem dX11_vowWord_12 : decode cX11_vowWord 12 = .ok (.aload_n 0, 1) := by decide +kernel
theorem dX11_vowWord_13 : decode cX11_vowWord 13 = .ok (.ldc 162, 2) := by decide +kernel
theorem dX11_vowWord_15 : decode cX11_vowWord 15 = .ok (.invokevirtual 137, 3) := by decide +kernel
theorem dX11_vowWord_18 : decode cX11_vowWord 18 = .ok (.ifCond .eq 5, 3) := by decide +kernel
theorem dX11_vowWord_21 : decode cX11_vowWord 21 = .ok (.iconst 5, 1) := by decide +kernel
theorem dX11_vowWord_22 : decode cX11_vowWord 22 = .ok (.ireturn, 1) := by decide +kernel
theorem dX11_vowWord_23 : decode cX11_vowWord 23 = .ok (.aload_n 0, 1) := by decide +kernel
theorem dX11_vowWord_24 : decode cX11_vowWord 24 = .ok (.ldc 176, 2) := by decide +kernel
theorem dX11_vowWord_26 : decode cX11_vowWord 26 = .ok (.invokevirtual 137, 3) := by decide +kernel
theorem dX11_vowWord_29 : decode cX11_vowWord 29 = .ok (.ifCond .eq 8, 3) := by decide +kernel
theorem dX11_vowWord_32 : decode cX11_vowWord 32 = .ok (.bipush 8, 2) := by decide +kernel
theorem dX11_vowWord_34 : decode cX11_vowWord 34 = .ok (.goto 4, 3) := by decide +kernel
theorem dX11_vowWord_37 : decode cX11_vowWord 37 = .ok (.iconst 1, 1) := by decide +kernel
theorem dX11_vowWord_38 : decode cX11_vowWord 38 = .ok (.ireturn, 1) := by decide +kernel
theorem dX11_weatherWord_0 : decode cX11_weatherWord 0 = .ok (.aload_n 0, 1) := by decide +kernel
theorem dX11_weatherWord_1 : decode cX11_weatherWord 1 = .ok (.ldc 177, 2) := by decide +kernel
theorem dX11_weatherWord_3 : decode cX11_weatherWord 3 = .ok (.invokevirtual 137, 3) := by decide +kernel
theorem dX11_weatherWord_6 : decode cX11_weatherWord 6 = .ok (.ifCond .eq 6, 3) := by decide +kernel
theorem dX11_weatherWord_9 : decode cX11_weatherWord 9 = .ok (.bipush 9, 2) := by decide +kernel
theorem dX11_weatherWord_11 : decode cX11_weatherWord 11 = .ok (.ireturn, 1) := by decide +kernel
theorem dX11_weatherWord_12 : decode cX11_weatherWord 12 = .ok (.aload_n 0, 1) := by decide +kernel
theorem dX11_weatherWord_13 : decode cX11_weatherWord 13 = .ok (.ldc 153, 2) := by decide +kernel
theorem dX11_weatherWord_15 : decode cX11_weatherWord 15 = .ok (.invokevirtual 137, 3) := by decide +kernel
theorem dX11_weatherWord_18 : decode cX11_weatherWord 18 = .ok (.ifCond .eq 8, 3) := by decide +kernel
theorem dX11_weatherWord_21 : decode cX11_weatherWord 21 = .ok (.bipush 10, 2) := by decide +kernel
theorem dX11_weatherWord_23 : decode cX11_weatherWord 23 = .ok (.goto 4, 3) := by decide +kernel
theorem dX11_weatherWord_26 : decode cX11_weatherWord 26 = .ok (.iconst 1, 1) := by decide +kernel
theorem dX11_weatherWord_27 : decode cX11_weatherWord 27 = .ok (.ireturn, 1) := by decide +kernel
theorem dX11_wantWord_0 : decode cX11_wantWord 0 = .ok (.aload_n 0, 1) := by decide +kernel
theorem dX11_wantWord_1 : decode cX11_wantWord 1 = .ok (.ldc 179, 2) := by decide +kernel
theorem dX11_wantWord_3 : decode cX11_wantWord 3 = .ok (.invokevirtual 137, 3) := by decide +kernel
theorem dX11_wantWord_6 : decode cX11_wantWord 6 = .ok (.ifCond .eq 6, 3) := by decide +kernel
theorem dX11_wantWord_9 : decode cX11_wantWord 9 = .ok (.bipush 11, 2) := by decide +kernel
theorem dX11_wantWord_11 : decode cX11_wantWord 11 = .ok (.ireturn, 1) := by decide +kernel
theorem dX11_wantWord_12 : decode cX11_wantWord 12 = .ok (.aload_n 0, 1) := by decide +kernel
theorem dX11_wantWord_13 : decode cX11_wantWord 13 = .ok (.ldc 174, 2) := by decide +kernel
theorem dX11_wantWord_15 : decode cX11_wantWord 15 = .ok (.invokevirtual 137, 3) := by decide +kernel
theorem dX11_wantWord_18 : decode cX11_wantWord 18 = .ok (.ifCond .eq 6, 3) := by decide +kernel
theorem dX11_wantWord_21 : decode cX11_wantWord 21 = .ok (.bipush 7, 2) := by decide +kernel
theorem dX11_wantWord_23 : decode cX11_wantWord 23 = .ok (.ireturn, 1) := by decide +kernel
theorem dX11_wantWord_24 : decode cX11_wantWord 24 = .ok (.aload_n 0, 1) := by decide +kernel
theorem dX11_wantWord_25 : decode cX11_wantWord 25 = .ok (.ldc 181, 2) := by decide +kernel
theorem dX11_wantWord_27 : decode cX11_wantWord 27 = .ok (.invokevirtual 137, 3) := by decide +kernel
theorem dX11_wantWord_30 : decode cX11_wantWord 30 = .ok (.ifCond .eq 8, 3) := by decide +kernel
theorem dX11_wantWord_33 : decode cX11_wantWord 33 = .ok (.bipush 12, 2) := by decide +kernel
theorem dX11_wantWord_35 : decode cX11_wantWord 35 = .ok (.goto 4, 3) := by decide +kernel
theorem dX11_wantWord_38 : decode cX11_wantWord 38 = .ok (.iconst 1, 1) := by decide +kernel
theorem dX11_wantWord_39 : decode cX11_wantWord 39 = .ok (.ireturn, 1) := by decide +kernel
theorem dX11_word_0 : decode cX11_word 0 = .ok (.aload_n 0, 1) := by decide +kernel
theorem dX11_word_1 : decode cX11_word 1 = .ok (.getfield 183, 3) := by decide +kernel
theorem dX11_word_4 : decode cX11_word 4 = .ok (.tableswitch 43 0 2 #[28, 33, 38], 28) := by decide +kernel
theorem dX11_word_32 : decode cX11_word 32 = .ok (.aload_n 0, 1) := by decide +kernel
theorem dX11_word_33 : decode cX11_word 33 = .ok (.invokevirtual 186, 3) := by decide +kernel
theorem dX11_word_36 : decode cX11_word 36 = .ok (.ireturn, 1) := by decide +kernel
theorem dX11_word_37 : decode cX11_word 37 = .ok (.aload_n 0, 1) := by decide +kernel
theorem dX11_word_38 : decode cX11_word 38 = .ok (.invokevirtual 189, 3) := by decide +kernel
theorem dX11_word_41 : decode cX11_word 41 = .ok (.ireturn, 1) := by decide +kernel
theorem dX11_word_42 : decode cX11_word 42 = .ok (.aload_n 0, 1) := by decide +kernel
theorem dX11_word_43 : decode cX11_word 43 = .ok (.invokevirtual 192, 3) := by decide +kernel
theorem dX11_word_46 : decode cX11_word 46 = .ok (.ireturn, 1) := by decide +kernel
theorem dX11_word_47 : decode cX11_word 47 = .ok (.aload_n 0, 1) := by decide +kernel
theorem dX11_word_48 : decode cX11_word 48 = .ok (.invokevirtual 195, 3) := by decide +kernel
theorem dX11_word_51 : decode cX11_word 51 = .ok (.ireturn, 1) := by decide +kernel
theorem dX11_next0_0 : decode cX11_next0 0 = .ok (.aload_n 0, 1) := by decide +kernel
theorem dX11_next0_1 : decode cX11_next0 1 = .ok (.aload_n 0, 1) := by decide +kernel
theorem dX11_next0_2 : decode cX11_next0 2 = .ok (.getfield 119, 3) := by decide +kernel
theorem dX11_next0_5 : decode cX11_next0 5 = .ok (.invokevirtual 198, 3) := by decide +kernel
theorem dX11_next0_8 : decode cX11_next0 8 = .ok (.bipush 32, 2) := by decide +kernel
theorem dX11_next0_10 : decode cX11_next0 10 = .ok (.if_icmp .eq 16, 3) := by decide +kernel
theorem dX11_next0_13 : decode cX11_next0 13 = .ok (.aload_n 0, 1) := by decide +kernel
theorem dX11_next0_14 : decode cX11_next0 14 = .ok (.aload_n 0, 1) := by decide +kernel
theorem dX11_next0_15 : decode cX11_next0 15 = .ok (.getfield 119, 3) := by decide +kernel
theorem dX11_next0_18 : decode cX11_next0 18 = .ok (.invokevirtual 198, 3) := by decide +kernel
theorem dX11_next0_21 : decode cX11_next0 21 = .ok (.bipush 10, 2) := by decide +kernel
theorem dX11_next0_23 : decode cX11_next0 23 = .ok (.if_icmp .ne 16, 3) := by decide +kernel
theorem dX11_next0_26 : decode cX11_next0 26 = .ok (.aload_n 0, 1) := by decide +kernel
theorem dX11_next0_27 : decode cX11_next0 27 = .ok (.dup, 1) := by decide +kernel
theorem dX11_next0_28 : decode cX11_next0 28 = .ok (.getfield 119, 3) := by decide +kernel
theorem dX11_next0_31 : decode cX11_next0 31 = .ok (.iconst 1, 1) := by decide +kernel
theorem dX11_next0_32 : decode cX11_next0 32 = .ok (.iadd, 1) := by decide +kernel
theorem dX11_next0_33 : decode cX11_next0 33 = .ok (.putfield 119, 3) := by decide +kernel
theorem dX11_next0_36 : decode cX11_next0 36 = .ok (.goto (-36), 3) := by decide +kernel
theorem dX11_next0_39 : decode cX11_next0 39 = .ok (.aload_n 0, 1) := by decide +kernel
theorem dX11_next0_40 : decode cX11_next0 40 = .ok (.aload_n 0, 1) := by decide +kernel
theorem dX11_next0_41 : decode cX11_next0 41 = .ok (.getfield 119, 3) := by decide +kernel
theorem dX11_next0_44 : decode cX11_next0 44 = .ok (.putfield 122, 3) := by decide +kernel
theorem dX11_next0_47 : decode cX11_next0 47 = .ok (.aload_n 0, 1) := by decide +kernel
theorem dX11_next0_48 : decode cX11_next0 48 = .ok (.aload_n 0, 1) := by decide +kernel
theorem dX11_next0_49 : decode cX11_next0 49 = .ok (.getfield 119, 3) := by decide +kernel
theorem dX11_next0_52 : decode cX11_next0 52 = .ok (.invokevirtual 198, 3) := by decide +kernel
theorem dX11_next0_55 : decode cX11_next0 55 = .ok (.istore_n 1, 1) := by decide +kernel
theorem dX11_next0_56 : decode cX11_next0 56 = .ok (.iload_n 1, 1) := by decide +kernel
theorem dX11_next0_57 : decode cX11_next0 57 = .ok (.iconst (-1), 1) := by decide +kernel
theorem dX11_next0_58 : decode cX11_next0 58 = .ok (.if_icmp .ne 11, 3) := by decide +kernel
theorem dX11_next0_61 : decode cX11_next0 61 = .ok (.aload_n 0, 1) := by decide +kernel
theorem dX11_next0_62 : decode cX11_next0 62 = .ok (.iconst 0, 1) := by decide +kernel
theorem dX11_next0_63 : decode cX11_next0 63 = .ok (.putfield 201, 3) := by decide +kernel
theorem dX11_next0_66 : decode cX11_next0 66 = .ok (.goto 240, 3) := by decide +kernel
theorem dX11_next0_69 : decode cX11_next0 69 = .ok (.iload_n 1, 1) := by decide +kernel
theorem dX11_next0_70 : decode cX11_next0 70 = .ok (.invokestatic 204, 3) := by decide +kernel
theorem dX11_next0_73 : decode cX11_next0 73 = .ok (.ifCond .eq 41, 3) := by decide +kernel
theorem dX11_next0_76 : decode cX11_next0 76 = .ok (.aload_n 0, 1) := by decide +kernel
theorem dX11_next0_77 : decode cX11_next0 77 = .ok (.aload_n 0, 1) := by decide +kernel
theorem dX11_next0_78 : decode cX11_next0 78 = .ok (.getfield 119, 3) := by decide +kernel
theorem dX11_next0_81 : decode cX11_next0 81 = .ok (.invokevirtual 198, 3) := by decide +kernel
theorem dX11_next0_84 : decode cX11_next0 84 = .ok (.invokestatic 204, 3) := by decide +kernel
theorem dX11_next0_87 : decode cX11_next0 87 = .ok (.ifCond .eq 16, 3) := by decide +kernel
theorem dX11_next0_90 : decode cX11_next0 90 = .ok (.aload_n 0, 1) := by decide +kernel
theorem dX11_next0_91 : decode cX11_next0 91 = .ok (.dup, 1) := by decide +kernel
theorem dX11_next0_92 : decode cX11_next0 92 = .ok (.getfield 119, 3) := by decide +kernel
theorem dX11_next0_95 : decode cX11_next0 95 = .ok (.iconst 1, 1) := by decide +kernel
theorem dX11_next0_96 : decode cX11_next0 96 = .ok (.iadd, 1) := by decide +kernel
theorem dX11_next0_97 : decode cX11_next0 97 = .ok (.putfield 119, 3) := by decide +kernel
theorem dX11_next0_100 : decode cX11_next0 100 = .ok (.goto (-24), 3) := by decide +kernel
theorem dX11_next0_103 : decode cX11_next0 103 = .ok (.aload_n 0, 1) := by decide +kernel
theorem dX11_next0_104 : decode cX11_next0 104 = .ok (.aload_n 0, 1) := by decide +kernel
theorem dX11_next0_105 : decode cX11_next0 105 = .ok (.invokevirtual 207, 3) := by decide +kernel
theorem dX11_next0_108 : decode cX11_next0 108 = .ok (.putfield 201, 3) := by decide +kernel
theorem dX11_next0_111 : decode cX11_next0 111 = .ok (.goto 195, 3) := by decide +kernel
theorem dX11_next0_114 : decode cX11_next0 114 = .ok (.iload_n 1, 1) := by decide +kernel
theorem dX11_next0_115 : decode cX11_next0 115 = .ok (.invokestatic 210, 3) := by decide +kernel
theorem dX11_next0_118 : decode cX11_next0 118 = .ok (.ifCond .eq 96, 3) := by decide +kernel
theorem dX11_next0_121 : decode cX11_next0 121 = .ok (.aload_n 0, 1) := by decide +kernel
theorem dX11_next0_122 : decode cX11_next0 122 = .ok (.iconst 0, 1) := by decide +kernel
theorem dX11_next0_123 : decode cX11_next0 123 = .ok (.putfield 213, 3) := by decide +kernel
theorem dX11_next0_126 : decode cX11_next0 126 = .ok (.aload_n 0, 1) := by decide +kernel
theorem dX11_next0_127 : decode cX11_next0 127 = .ok (.aload_n 0, 1) := by decide +kernel
theorem dX11_next0_128 : decode cX11_next0 128 = .ok (.getfield 119, 3) := by decide +kernel
theorem dX11_next0_131 : decode cX11_next0 131 = .ok (.invokevirtual 198, 3) := by decide +kernel
theorem dX11_next0_134 : decode cX11_next0 134 = .ok (.invokestatic 210, 3) := by decide +kernel
theorem dX11_next0_137 : decode cX11_next0 137 = .ok (.ifCond .eq 52, 3) := by decide +kernel
theorem dX11_next0_140 : decode cX11_next0 140 = .ok (.aload_n 0, 1) := by decide +kernel
theorem dX11_next0_141 : decode cX11_next0 141 = .ok (.getfield 119, 3) := by decide +kernel
theorem dX11_next0_144 : decode cX11_next0 144 = .ok (.aload_n 0, 1) := by decide +kernel
theorem dX11_next0_145 : decode cX11_next0 145 = .ok (.getfield 122, 3) := by decide +kernel
theorem dX11_next0_148 : decode cX11_next0 148 = .ok (.iconst 4, 1) := by decide +kernel
theorem dX11_next0_149 : decode cX11_next0 149 = .ok (.iadd, 1) := by decide +kernel
theorem dX11_next0_150 : decode cX11_next0 150 = .ok (.if_icmp .ge 26, 3) := by decide +kernel
theorem dX11_next0_153 : decode cX11_next0 153 = .ok (.aload_n 0, 1) := by decide +kernel
theorem dX11_next0_154 : decode cX11_next0 154 = .ok (.bipush 10, 2) := by decide +kernel
theorem dX11_next0_156 : decode cX11_next0 156 = .ok (.aload_n 0, 1) := by decide +kernel
theorem dX11_next0_157 : decode cX11_next0 157 = .ok (.getfield 213, 3) := by decide +kernel
theorem dX11_next0_160 : decode cX11_next0 160 = .ok (.imul, 1) := by decide +kernel
theorem dX11_next0_161 : decode cX11_next0 161 = .ok (.aload_n 0, 1) := by decide +kernel
theorem dX11_next0_162 : decode cX11_next0 162 = .ok (.aload_n 0, 1) := by decide +kernel
theorem dX11_next0_163 : decode cX11_next0 163 = .ok (.getfield 119, 3) := by decide +kernel
theorem dX11_next0_166 : decode cX11_next0 166 = .ok (.invokevirtual 198, 3) := by decide +kernel
theorem dX11_next0_169 : decode cX11_next0 169 = .ok (.iadd, 1) := by decide +kernel
theorem dX11_next0_170 : decode cX11_next0 170 = .ok (.bipush 48, 2) := by decide +kernel
theorem dX11_next0_172 : decode cX11_next0 172 = .ok (.isub, 1) := by decide +kernel
theorem dX11_next0_173 : decode cX11_next0 173 = .ok (.putfield 213, 3) := by decide +kernel
theorem dX11_next0_176 : decode cX11_next0 176 = .ok (.aload_n 0, 1) := by decide +kernel
theorem dX11_next0_177 : decode cX11_next0 177 = .ok (.dup, 1) := by decide +kernel
theorem dX11_next0_178 : decode cX11_next0 178 = .ok (.getfield 119, 3) := by decide +kernel
theorem dX11_next0_181 : decode cX11_next0 181 = .ok (.iconst 1, 1) := by decide +kernel
theorem dX11_next0_182 : decode cX11_next0 182 = .ok (.iadd, 1) := by decide +kernel
theorem dX11_next0_183 : decode cX11_next0 183 = .ok (.putfield 119, 3) := by decide +kernel
theorem dX11_next0_186 : decode cX11_next0 186 = .ok (.goto (-60), 3) := by decide +kernel
theorem dX11_next0_189 : decode cX11_next0 189 = .ok (.aload_n 0, 1) := by decide +kernel
theorem dX11_next0_190 : decode cX11_next0 190 = .ok (.aload_n 0, 1) := by decide +kernel
theorem dX11_next0_191 : decode cX11_next0 191 = .ok (.getfield 119, 3) := by decide +kernel
theorem dX11_next0_194 : decode cX11_next0 194 = .ok (.aload_n 0, 1) := by decide +kernel
theorem dX11_next0_195 : decode cX11_next0 195 = .ok (.getfield 122, 3) := by decide +kernel
theorem dX11_next0_198 : decode cX11_next0 198 = .ok (.isub, 1) := by decide +kernel
theorem dX11_next0_199 : decode cX11_next0 199 = .ok (.iconst 5, 1) := by decide +kernel
theorem dX11_next0_200 : decode cX11_next0 200 = .ok (.if_icmp .ge 7, 3) := by decide +kernel
theorem dX11_next0_203 : decode cX11_next0 203 = .ok (.iconst 2, 1) := by decide +kernel
theorem dX11_next0_204 : decode cX11_next0 204 = .ok (.goto 4, 3) := by decide +kernel
theorem dX11_next0_207 : decode cX11_next0 207 = .ok (.iconst 1, 1) := by decide +kernel
theorem dX11_next0_208 : decode cX11_next0 208 = .ok (.putfield 201, 3) := by decide +kernel
theorem dX11_next0_211 : decode cX11_next0 211 = .ok (.goto 95, 3) := by decide +kernel
theorem dX11_next0_214 : decode cX11_next0 214 = .ok (.aload_n 0, 1) := by decide +kernel
theorem dX11_next0_215 : decode cX11_next0 215 = .ok (.dup, 1) := by decide +kernel
theorem dX11_next0_216 : decode cX11_next0 216 = .ok (.getfield 119, 3) := by decide +kernel
theorem dX11_next0_219 : decode cX11_next0 219 = .ok (.iconst 1, 1) := by decide +kernel
theorem dX11_next0_220 : decode cX11_next0 220 = .ok (.iadd, 1) := by decide +kernel
theorem dX11_next0_221 : decode cX11_next0 221 = .ok (.putfield 119, 3) := by decide +kernel
theorem dX11_next0_224 : decode cX11_next0 224 = .ok (.iload_n 1, 1) := by decide +kernel
theorem dX11_next0_225 : decode cX11_next0 225 = .ok (.bipush 59, 2) := by decide +kernel
theorem dX11_next0_227 : decode cX11_next0 227 = .ok (.if_icmp .eq 57, 3) := by decide +kernel
theorem dX11_next0_230 : decode cX11_next0 230 = .ok (.iload_n 1, 1) := by decide +kernel
theorem dX11_next0_231 : decode cX11_next0 231 = .ok (.bipush 43, 2) := by decide +kernel
theorem dX11_next0_233 : decode cX11_next0 233 = .ok (.if_icmp .eq 51, 3) := by decide +kernel
theorem dX11_next0_236 : decode cX11_next0 236 = .ok (.iload_n 1, 1) := by decide +kernel
theorem dX11_next0_237 : decode cX11_next0 237 = .ok (.bipush 45, 2) := by decide +kernel
theorem dX11_next0_239 : decode cX11_next0 239 = .ok (.if_icmp .eq 45, 3) := by decide +kernel
theorem dX11_next0_242 : decode cX11_next0 242 = .ok (.iload_n 1, 1) := by decide +kernel
theorem dX11_next0_243 : decode cX11_next0 243 = .ok (.bipush 42, 2) := by decide +kernel
theorem dX11_next0_245 : decode cX11_next0 245 = .ok (.if_icmp .eq 39, 3) := by decide +kernel
theorem dX11_next0_248 : decode cX11_next0 248 = .ok (.iload_n 1, 1) := by decide +kernel
theorem dX11_next0_249 : decode cX11_next0 249 = .ok (.bipush 47, 2) := by decide +kernel
theorem dX11_next0_251 : decode cX11_next0 251 = .ok (.if_icmp .eq 33, 3) := by decide +kernel
theorem dX11_next0_254 : decode cX11_next0 254 = .ok (.iload_n 1, 1) := by decide +kernel
theorem dX11_next0_255 : decode cX11_next0 255 = .ok (.bipush 40, 2) := by decide +kernel
theorem dX11_next0_257 : decode cX11_next0 257 = .ok (.if_icmp .eq 27, 3) := by decide +kernel
theorem dX11_next0_260 : decode cX11_next0 260 = .ok (.iload_n 1, 1) := by decide +kernel
theorem dX11_next0_261 : decode cX11_next0 261 = .ok (.bipush 41, 2) := by decide +kernel
theorem dX11_next0_263 : decode cX11_next0 263 = .ok (.if_icmp .eq 21, 3) := by decide +kernel
theorem dX11_next0_266 : decode cX11_next0 266 = .ok (.iload_n 1, 1) := by decide +kernel
theorem dX11_next0_267 : decode cX11_next0 267 = .ok (.bipush 60, 2) := by decide +kernel
theorem dX11_next0_269 : decode cX11_next0 269 = .ok (.if_icmp .eq 15, 3) := by decide +kernel
theorem dX11_next0_272 : decode cX11_next0 272 = .ok (.iload_n 1, 1) := by decide +kernel
theorem dX11_next0_273 : decode cX11_next0 273 = .ok (.bipush 61, 2) := by decide +kernel
theorem dX11_next0_275 : decode cX11_next0 275 = .ok (.if_icmp .eq 9, 3) := by decide +kernel
theorem dX11_next0_278 : decode cX11_next0 278 = .ok (.iload_n 1, 1) := by decide +kernel
theorem dX11_next0_279 : decode cX11_next0 279 = .ok (.bipush 62, 2) := by decide +kernel
theorem dX11_next0_281 : decode cX11_next0 281 = .ok (.if_icmp .ne 7, 3) := by decide +kernel
theorem dX11_next0_284 : decode cX11_next0 284 = .ok (.iconst 1, 1) := by decide +kernel
theorem dX11_next0_285 : decode cX11_next0 285 = .ok (.goto 4, 3) := by decide +kernel
theorem dX11_next0_288 : decode cX11_next0 288 = .ok (.iconst 0, 1) := by decide +kernel
theorem dX11_next0_289 : decode cX11_next0 289 = .ok (.istore_n 2, 1) := by decide +kernel
theorem dX11_next0_290 : decode cX11_next0 290 = .ok (.aload_n 0, 1) := by decide +kernel
theorem dX11_next0_291 : decode cX11_next0 291 = .ok (.iload_n 2, 1) := by decide +kernel
theorem dX11_next0_292 : decode cX11_next0 292 = .ok (.ifCond .eq 10, 3) := by decide +kernel
theorem dX11_next0_295 : decode cX11_next0 295 = .ok (.bipush 100, 2) := by decide +kernel
theorem dX11_next0_297 : decode cX11_next0 297 = .ok (.iload_n 1, 1) := by decide +kernel
theorem dX11_next0_298 : decode cX11_next0 298 = .ok (.iadd, 1) := by decide +kernel
theorem dX11_next0_299 : decode cX11_next0 299 = .ok (.goto 4, 3) := by decide +kernel
theorem dX11_next0_302 : decode cX11_next0 302 = .ok (.iconst 1, 1) := by decide +kernel
theorem dX11_next0_303 : decode cX11_next0 303 = .ok (.putfield 201, 3) := by decide +kernel
theorem dX11_next0_306 : decode cX11_next0 306 = .ok (.return_, 1) := by decide +kernel
theorem dX11_bad_0 : decode cX11_bad 0 = .ok (.aload_n 0, 1) := by decide +kernel
theorem dX11_bad_1 : decode cX11_bad 1 = .ok (.iload_n 1, 1) := by decide +kernel
theorem dX11_bad_2 : decode cX11_bad 2 = .ok (.putfield 216, 3) := by decide +kernel
theorem dX11_bad_5 : decode cX11_bad 5 = .ok (.aload_n 0, 1) := by decide +kernel
theorem dX11_bad_6 : decode cX11_bad 6 = .ok (.aload_n 0, 1) := by decide +kernel
theorem dX11_bad_7 : decode cX11_bad 7 = .ok (.getfield 122, 3) := by decide +kernel
theorem dX11_bad_10 : decode cX11_bad 10 = .ok (.putfield 219, 3) := by decide +kernel
theorem dX11_bad_13 : decode cX11_bad 13 = .ok (.iconst 0, 1) := by decide +kernel
theorem dX11_bad_14 : decode cX11_bad 14 = .ok (.ireturn, 1) := by decide +kernel
theorem dX11_need_0 : decode cX11_need 0 = .ok (.aload_n 0, 1) := by decide +kernel
theorem dX11_need_1 : decode cX11_need 1 = .ok (.getfield 201, 3) := by decide +kernel
theorem dX11_need_4 : decode cX11_need 4 = .ok (.iload_n 1, 1) := by decide +kernel
theorem dX11_need_5 : decode cX11_need 5 = .ok (.if_icmp .eq 9, 3) := by decide +kernel
theorem dX11_need_8 : decode cX11_need 8 = .ok (.aload_n 0, 1) := by decide +kernel
theorem dX11_need_9 : decode cX11_need 9 = .ok (.iconst 1, 1) := by decide +kernel
theorem dX11_need_10 : decode cX11_need 10 = .ok (.invokevirtual 222, 3) := by decide +kernel
theorem dX11_need_13 : decode cX11_need 13 = .ok (.ireturn, 1) := by decide +kernel
theorem dX11_need_14 : decode cX11_need 14 = .ok (.aload_n 0, 1) := by decide +kernel
theorem dX11_need_15 : decode cX11_need 15 = .ok (.invokevirtual 225, 3) := by decide +kernel
theorem dX11_need_18 : decode cX11_need 18 = .ok (.iconst 1, 1) := by decide +kernel
theorem dX11_need_19 : decode cX11_need 19 = .ok (.ireturn, 1) := by decide +kernel
theorem dX11_lay_0 : decode cX11_lay 0 = .ok (.aload_n 0, 1) := by decide +kernel
theorem dX11_lay_1 : decode cX11_lay 1 = .ok (.getfield 25, 3) := by decide +kernel
theorem dX11_lay_4 : decode cX11_lay 4 = .ok (.iconst 2, 1) := by decide +kernel
theorem dX11_lay_5 : decode cX11_lay 5 = .ok (.aload_n 0, 1) := by decide +kernel
theorem dX11_lay_6 : decode cX11_lay 6 = .ok (.getfield 228, 3) := by decide +kernel
theorem dX11_lay_9 : decode cX11_lay 9 = .ok (.imul, 1) := by decide +kernel
theorem dX11_lay_10 : decode cX11_lay 10 = .ok (.iload_n 1, 1) := by decide +kernel
theorem dX11_lay_11 : decode cX11_lay 11 = .ok (.iastore, 1) := by decide +kernel
theorem dX11_lay_12 : decode cX11_lay 12 = .ok (.aload_n 0, 1) := by decide +kernel
theorem dX11_lay_13 : decode cX11_lay 13 = .ok (.getfield 25, 3) := by decide +kernel
theorem dX11_lay_16 : decode cX11_lay 16 = .ok (.iconst 2, 1) := by decide +kernel
theorem dX11_lay_17 : decode cX11_lay 17 = .ok (.aload_n 0, 1) := by decide +kernel
theorem dX11_lay_18 : decode cX11_lay 18 = .ok (.getfield 228, 3) := by decide +kernel
theorem dX11_lay_21 : decode cX11_lay 21 = .ok (.imul, 1) := by decide +kernel
theorem dX11_lay_22 : decode cX11_lay 22 = .ok (.iconst 1, 1) := by decide +kernel
theorem dX11_lay_23 : decode cX11_lay 23 = .ok (.iadd, 1) := by decide +kernel
theorem dX11_lay_24 : decode cX11_lay 24 = .ok (.iload_n 2, 1) := by decide +kernel
theorem dX11_lay_25 : decode cX11_lay 25 = .ok (.iastore, 1) := by decide +kernel
theorem dX11_lay_26 : decode cX11_lay 26 = .ok (.aload_n 0, 1) := by decide +kernel
theorem dX11_lay_27 : decode cX11_lay 27 = .ok (.dup, 1) := by decide +kernel
theorem dX11_lay_28 : decode cX11_lay 28 = .ok (.getfield 228, 3) := by decide +kernel
theorem dX11_lay_31 : decode cX11_lay 31 = .ok (.iconst 1, 1) := by decide +kernel
theorem dX11_lay_32 : decode cX11_lay 32 = .ok (.iadd, 1) := by decide +kernel
theorem dX11_lay_33 : decode cX11_lay 33 = .ok (.putfield 228, 3) := by decide +kernel
theorem dX11_lay_36 : decode cX11_lay 36 = .ok (.return_, 1) := by decide +kernel
theorem dX11_opens_0 : decode cX11_opens 0 = .ok (.aload_n 0, 1) := by decide +kernel
theorem dX11_opens_1 : decode cX11_opens 1 = .ok (.getfield 231, 3) := by decide +kernel
theorem dX11_opens_4 : decode cX11_opens 4 = .ok (.bipush 8, 2) := by decide +kernel
theorem dX11_opens_6 : decode cX11_opens 6 = .ok (.if_icmp .ne 9, 3) := by decide +kernel
theorem dX11_opens_9 : decode cX11_opens 9 = .ok (.aload_n 0, 1) := by decide +kernel
theorem dX11_opens_10 : decode cX11_opens 10 = .ok (.iconst 3, 1) := by decide +kernel
theorem dX11_opens_11 : decode cX11_opens 11 = .ok (.invokevirtual 222, 3) := by decide +kernel
theorem dX11_opens_14 : decode cX11_opens 14 = .ok (.ireturn, 1) := by decide +kernel
theorem dX11_opens_15 : decode cX11_opens 15 = .ok (.aload_n 0, 1) := by decide +kernel
theorem dX11_opens_16 : decode cX11_opens 16 = .ok (.dup, 1) := by decide +kernel
theorem dX11_opens_17 : decode cX11_opens 17 = .ok (.getfield 231, 3) := by decide +kernel
