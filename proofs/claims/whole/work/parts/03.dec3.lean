theorem dX11_opens_20 : decode cX11_opens 20 = .ok (.iconst 1, 1) := by decide +kernel
theorem dX11_opens_21 : decode cX11_opens 21 = .ok (.iadd, 1) := by decide +kernel
theorem dX11_opens_22 : decode cX11_opens 22 = .ok (.putfield 231, 3) := by decide +kernel
theorem dX11_opens_25 : decode cX11_opens 25 = .ok (.aload_n 0, 1) := by decide +kernel
theorem dX11_opens_26 : decode cX11_opens 26 = .ok (.invokevirtual 225, 3) := by decide +kernel
theorem dX11_opens_29 : decode cX11_opens 29 = .ok (.iconst 1, 1) := by decide +kernel
theorem dX11_opens_30 : decode cX11_opens 30 = .ok (.ireturn, 1) := by decide +kernel
theorem dX11_sumUp_0 : decode cX11_sumUp 0 = .ok (.aload_n 0, 1) := by decide +kernel
theorem dX11_sumUp_1 : decode cX11_sumUp 1 = .ok (.invokevirtual 234, 3) := by decide +kernel
theorem dX11_sumUp_4 : decode cX11_sumUp 4 = .ok (.ifCond .ne 5, 3) := by decide +kernel
theorem dX11_sumUp_7 : decode cX11_sumUp 7 = .ok (.iconst 0, 1) := by decide +kernel
theorem dX11_sumUp_8 : decode cX11_sumUp 8 = .ok (.ireturn, 1) := by decide +kernel
theorem dX11_sumUp_9 : decode cX11_sumUp 9 = .ok (.aload_n 0, 1) := by decide +kernel
theorem dX11_sumUp_10 : decode cX11_sumUp 10 = .ok (.getfield 201, 3) := by decide +kernel
theorem dX11_sumUp_13 : decode cX11_sumUp 13 = .ok (.sipush 143, 3) := by decide +kernel
theorem dX11_sumUp_16 : decode cX11_sumUp 16 = .ok (.if_icmp .eq 13, 3) := by decide +kernel
theorem dX11_sumUp_19 : decode cX11_sumUp 19 = .ok (.aload_n 0, 1) := by decide +kernel
theorem dX11_sumUp_20 : decode cX11_sumUp 20 = .ok (.getfield 201, 3) := by decide +kernel
theorem dX11_sumUp_23 : decode cX11_sumUp 23 = .ok (.sipush 145, 3) := by decide +kernel
theorem dX11_sumUp_26 : decode cX11_sumUp 26 = .ok (.if_icmp .ne 43, 3) := by decide +kernel
theorem dX11_sumUp_29 : decode cX11_sumUp 29 = .ok (.aload_n 0, 1) := by decide +kernel
theorem dX11_sumUp_30 : decode cX11_sumUp 30 = .ok (.getfield 201, 3) := by decide +kernel
theorem dX11_sumUp_33 : decode cX11_sumUp 33 = .ok (.sipush 143, 3) := by decide +kernel
theorem dX11_sumUp_36 : decode cX11_sumUp 36 = .ok (.if_icmp .ne 8, 3) := by decide +kernel
theorem dX11_sumUp_39 : decode cX11_sumUp 39 = .ok (.bipush 23, 2) := by decide +kernel
theorem dX11_sumUp_41 : decode cX11_sumUp 41 = .ok (.goto 5, 3) := by decide +kernel
theorem dX11_sumUp_44 : decode cX11_sumUp 44 = .ok (.bipush 24, 2) := by decide +kernel
theorem dX11_sumUp_46 : decode cX11_sumUp 46 = .ok (.istore_n 1, 1) := by decide +kernel
theorem dX11_sumUp_47 : decode cX11_sumUp 47 = .ok (.aload_n 0, 1) := by decide +kernel
theorem dX11_sumUp_48 : decode cX11_sumUp 48 = .ok (.invokevirtual 225, 3) := by decide +kernel
theorem dX11_sumUp_51 : decode cX11_sumUp 51 = .ok (.aload_n 0, 1) := by decide +kernel
theorem dX11_sumUp_52 : decode cX11_sumUp 52 = .ok (.invokevirtual 234, 3) := by decide +kernel
theorem dX11_sumUp_55 : decode cX11_sumUp 55 = .ok (.ifCond .ne 5, 3) := by decide +kernel
theorem dX11_sumUp_58 : decode cX11_sumUp 58 = .ok (.iconst 0, 1) := by decide +kernel
theorem dX11_sumUp_59 : decode cX11_sumUp 59 = .ok (.ireturn, 1) := by decide +kernel
theorem dX11_sumUp_60 : decode cX11_sumUp 60 = .ok (.aload_n 0, 1) := by decide +kernel
theorem dX11_sumUp_61 : decode cX11_sumUp 61 = .ok (.iload_n 1, 1) := by decide +kernel
theorem dX11_sumUp_62 : decode cX11_sumUp 62 = .ok (.iconst 0, 1) := by decide +kernel
theorem dX11_sumUp_63 : decode cX11_sumUp 63 = .ok (.invokevirtual 238, 3) := by decide +kernel
theorem dX11_sumUp_66 : decode cX11_sumUp 66 = .ok (.goto (-57), 3) := by decide +kernel
theorem dX11_sumUp_69 : decode cX11_sumUp 69 = .ok (.iconst 1, 1) := by decide +kernel
theorem dX11_sumUp_70 : decode cX11_sumUp 70 = .ok (.ireturn, 1) := by decide +kernel
theorem dX11_product_0 : decode cX11_product 0 = .ok (.aload_n 0, 1) := by decide +kernel
theorem dX11_product_1 : decode cX11_product 1 = .ok (.invokevirtual 241, 3) := by decide +kernel
theorem dX11_product_4 : decode cX11_product 4 = .ok (.ifCond .ne 5, 3) := by decide +kernel
theorem dX11_product_7 : decode cX11_product 7 = .ok (.iconst 0, 1) := by decide +kernel
theorem dX11_product_8 : decode cX11_product 8 = .ok (.ireturn, 1) := by decide +kernel
theorem dX11_product_9 : decode cX11_product 9 = .ok (.aload_n 0, 1) := by decide +kernel
theorem dX11_product_10 : decode cX11_product 10 = .ok (.getfield 201, 3) := by decide +kernel
theorem dX11_product_13 : decode cX11_product 13 = .ok (.sipush 142, 3) := by decide +kernel
theorem dX11_product_16 : decode cX11_product 16 = .ok (.if_icmp .eq 13, 3) := by decide +kernel
theorem dX11_product_19 : decode cX11_product 19 = .ok (.aload_n 0, 1) := by decide +kernel
theorem dX11_product_20 : decode cX11_product 20 = .ok (.getfield 201, 3) := by decide +kernel
theorem dX11_product_23 : decode cX11_product 23 = .ok (.sipush 147, 3) := by decide +kernel
theorem dX11_product_26 : decode cX11_product 26 = .ok (.if_icmp .ne 89, 3) := by decide +kernel
theorem dX11_product_29 : decode cX11_product 29 = .ok (.aload_n 0, 1) := by decide +kernel
theorem dX11_product_30 : decode cX11_product 30 = .ok (.getfield 201, 3) := by decide +kernel
theorem dX11_product_33 : decode cX11_product 33 = .ok (.sipush 147, 3) := by decide +kernel
theorem dX11_product_36 : decode cX11_product 36 = .ok (.if_icmp .ne 7, 3) := by decide +kernel
theorem dX11_product_39 : decode cX11_product 39 = .ok (.iconst 1, 1) := by decide +kernel
theorem dX11_product_40 : decode cX11_product 40 = .ok (.goto 4, 3) := by decide +kernel
theorem dX11_product_43 : decode cX11_product 43 = .ok (.iconst 0, 1) := by decide +kernel
theorem dX11_product_44 : decode cX11_product 44 = .ok (.istore_n 1, 1) := by decide +kernel
theorem dX11_product_45 : decode cX11_product 45 = .ok (.aload_n 0, 1) := by decide +kernel
theorem dX11_product_46 : decode cX11_product 46 = .ok (.invokevirtual 225, 3) := by decide +kernel
theorem dX11_product_49 : decode cX11_product 49 = .ok (.iload_n 1, 1) := by decide +kernel
theorem dX11_product_50 : decode cX11_product 50 = .ok (.ifCond .eq 46, 3) := by decide +kernel
theorem dX11_product_53 : decode cX11_product 53 = .ok (.aload_n 0, 1) := by decide +kernel
theorem dX11_product_54 : decode cX11_product 54 = .ok (.getfield 213, 3) := by decide +kernel
theorem dX11_product_57 : decode cX11_product 57 = .ok (.istore_n 2, 1) := by decide +kernel
theorem dX11_product_58 : decode cX11_product 58 = .ok (.aload_n 0, 1) := by decide +kernel
theorem dX11_product_59 : decode cX11_product 59 = .ok (.getfield 201, 3) := by decide +kernel
theorem dX11_product_62 : decode cX11_product 62 = .ok (.iconst 2, 1) := by decide +kernel
theorem dX11_product_63 : decode cX11_product 63 = .ok (.if_icmp .eq 9, 3) := by decide +kernel
theorem dX11_product_66 : decode cX11_product 66 = .ok (.aload_n 0, 1) := by decide +kernel
theorem dX11_product_67 : decode cX11_product 67 = .ok (.iconst 1, 1) := by decide +kernel
theorem dX11_product_68 : decode cX11_product 68 = .ok (.invokevirtual 222, 3) := by decide +kernel
theorem dX11_product_71 : decode cX11_product 71 = .ok (.ireturn, 1) := by decide +kernel
theorem dX11_product_72 : decode cX11_product 72 = .ok (.iload_n 2, 1) := by decide +kernel
theorem dX11_product_73 : decode cX11_product 73 = .ok (.ifCond .ne 9, 3) := by decide +kernel
theorem dX11_product_76 : decode cX11_product 76 = .ok (.aload_n 0, 1) := by decide +kernel
theorem dX11_product_77 : decode cX11_product 77 = .ok (.iconst 2, 1) := by decide +kernel
theorem dX11_product_78 : decode cX11_product 78 = .ok (.invokevirtual 222, 3) := by decide +kernel
theorem dX11_product_81 : decode cX11_product 81 = .ok (.ireturn, 1) := by decide +kernel
theorem dX11_product_82 : decode cX11_product 82 = .ok (.aload_n 0, 1) := by decide +kernel
theorem dX11_product_83 : decode cX11_product 83 = .ok (.invokevirtual 225, 3) := by decide +kernel
theorem dX11_product_86 : decode cX11_product 86 = .ok (.aload_n 0, 1) := by decide +kernel
theorem dX11_product_87 : decode cX11_product 87 = .ok (.bipush 26, 2) := by decide +kernel
theorem dX11_product_89 : decode cX11_product 89 = .ok (.iload_n 2, 1) := by decide +kernel
theorem dX11_product_90 : decode cX11_product 90 = .ok (.invokevirtual 238, 3) := by decide +kernel
theorem dX11_product_93 : decode cX11_product 93 = .ok (.goto 19, 3) := by decide +kernel
theorem dX11_product_96 : decode cX11_product 96 = .ok (.aload_n 0, 1) := by decide +kernel
theorem dX11_product_97 : decode cX11_product 97 = .ok (.invokevirtual 241, 3) := by decide +kernel
theorem dX11_product_100 : decode cX11_product 100 = .ok (.ifCond .ne 5, 3) := by decide +kernel
theorem dX11_product_103 : decode cX11_product 103 = .ok (.iconst 0, 1) := by decide +kernel
theorem dX11_product_104 : decode cX11_product 104 = .ok (.ireturn, 1) := by decide +kernel
theorem dX11_product_105 : decode cX11_product 105 = .ok (.aload_n 0, 1) := by decide +kernel
theorem dX11_product_106 : decode cX11_product 106 = .ok (.bipush 25, 2) := by decide +kernel
theorem dX11_product_108 : decode cX11_product 108 = .ok (.iconst 0, 1) := by decide +kernel
theorem dX11_product_109 : decode cX11_product 109 = .ok (.invokevirtual 238, 3) := by decide +kernel
theorem dX11_product_112 : decode cX11_product 112 = .ok (.goto (-103), 3) := by decide +kernel
theorem dX11_product_115 : decode cX11_product 115 = .ok (.iconst 1, 1) := by decide +kernel
theorem dX11_product_116 : decode cX11_product 116 = .ok (.ireturn, 1) := by decide +kernel
theorem dX11_unit_0 : decode cX11_unit 0 = .ok (.aload_n 0, 1) := by decide +kernel
theorem dX11_unit_1 : decode cX11_unit 1 = .ok (.getfield 201, 3) := by decide +kernel
theorem dX11_unit_4 : decode cX11_unit 4 = .ok (.bipush 41, 2) := by decide +kernel
theorem dX11_unit_6 : decode cX11_unit 6 = .ok (.bipush 50, 2) := by decide +kernel
theorem dX11_unit_8 : decode cX11_unit 8 = .ok (.invokestatic 89, 3) := by decide +kernel
theorem dX11_unit_11 : decode cX11_unit 11 = .ok (.istore_n 1, 1) := by decide +kernel
theorem dX11_unit_12 : decode cX11_unit 12 = .ok (.aload_n 0, 1) := by decide +kernel
theorem dX11_unit_13 : decode cX11_unit 13 = .ok (.getfield 201, 3) := by decide +kernel
theorem dX11_unit_16 : decode cX11_unit 16 = .ok (.iconst 2, 1) := by decide +kernel
theorem dX11_unit_17 : decode cX11_unit 17 = .ok (.if_icmp .eq 13, 3) := by decide +kernel
theorem dX11_unit_20 : decode cX11_unit 20 = .ok (.iload_n 1, 1) := by decide +kernel
theorem dX11_unit_21 : decode cX11_unit 21 = .ok (.ifCond .ne 9, 3) := by decide +kernel
theorem dX11_unit_24 : decode cX11_unit 24 = .ok (.aload_n 0, 1) := by decide +kernel
theorem dX11_unit_25 : decode cX11_unit 25 = .ok (.iconst 1, 1) := by decide +kernel
theorem dX11_unit_26 : decode cX11_unit 26 = .ok (.invokevirtual 222, 3) := by decide +kernel
theorem dX11_unit_29 : decode cX11_unit 29 = .ok (.ireturn, 1) := by decide +kernel
theorem dX11_unit_30 : decode cX11_unit 30 = .ok (.aload_n 0, 1) := by decide +kernel
theorem dX11_unit_31 : decode cX11_unit 31 = .ok (.iload_n 1, 1) := by decide +kernel
theorem dX11_unit_32 : decode cX11_unit 32 = .ok (.ifCond .eq 13, 3) := by decide +kernel
theorem dX11_unit_35 : decode cX11_unit 35 = .ok (.aload_n 0, 1) := by decide +kernel
theorem dX11_unit_36 : decode cX11_unit 36 = .ok (.getfield 201, 3) := by decide +kernel
theorem dX11_unit_39 : decode cX11_unit 39 = .ok (.bipush 40, 2) := by decide +kernel
theorem dX11_unit_41 : decode cX11_unit 41 = .ok (.isub, 1) := by decide +kernel
theorem dX11_unit_42 : decode cX11_unit 42 = .ok (.goto 4, 3) := by decide +kernel
theorem dX11_unit_45 : decode cX11_unit 45 = .ok (.iconst 0, 1) := by decide +kernel
theorem dX11_unit_46 : decode cX11_unit 46 = .ok (.aload_n 0, 1) := by decide +kernel
theorem dX11_unit_47 : decode cX11_unit 47 = .ok (.getfield 213, 3) := by decide +kernel
theorem dX11_unit_50 : decode cX11_unit 50 = .ok (.invokevirtual 238, 3) := by decide +kernel
theorem dX11_unit_53 : decode cX11_unit 53 = .ok (.aload_n 0, 1) := by decide +kernel
theorem dX11_unit_54 : decode cX11_unit 54 = .ok (.invokevirtual 225, 3) := by decide +kernel
theorem dX11_unit_57 : decode cX11_unit 57 = .ok (.iconst 1, 1) := by decide +kernel
theorem dX11_unit_58 : decode cX11_unit 58 = .ok (.ireturn, 1) := by decide +kernel
theorem dX11_any_0 : decode cX11_any 0 = .ok (.aload_n 0, 1) := by decide +kernel
theorem dX11_any_1 : decode cX11_any 1 = .ok (.invokevirtual 244, 3) := by decide +kernel
theorem dX11_any_4 : decode cX11_any 4 = .ok (.ifCond .ne 5, 3) := by decide +kernel
theorem dX11_any_7 : decode cX11_any 7 = .ok (.iconst 0, 1) := by decide +kernel
theorem dX11_any_8 : decode cX11_any 8 = .ok (.ireturn, 1) := by decide +kernel
theorem dX11_any_9 : decode cX11_any 9 = .ok (.aload_n 0, 1) := by decide +kernel
theorem dX11_any_10 : decode cX11_any 10 = .ok (.getfield 201, 3) := by decide +kernel
theorem dX11_any_13 : decode cX11_any 13 = .ok (.iconst 4, 1) := by decide +kernel
theorem dX11_any_14 : decode cX11_any 14 = .ok (.if_icmp .ne 26, 3) := by decide +kernel
theorem dX11_any_17 : decode cX11_any 17 = .ok (.aload_n 0, 1) := by decide +kernel
theorem dX11_any_18 : decode cX11_any 18 = .ok (.invokevirtual 225, 3) := by decide +kernel
theorem dX11_any_21 : decode cX11_any 21 = .ok (.aload_n 0, 1) := by decide +kernel
theorem dX11_any_22 : decode cX11_any 22 = .ok (.invokevirtual 244, 3) := by decide +kernel
theorem dX11_any_25 : decode cX11_any 25 = .ok (.ifCond .ne 5, 3) := by decide +kernel
theorem dX11_any_28 : decode cX11_any 28 = .ok (.iconst 0, 1) := by decide +kernel
theorem dX11_any_29 : decode cX11_any 29 = .ok (.ireturn, 1) := by decide +kernel
theorem dX11_any_30 : decode cX11_any 30 = .ok (.aload_n 0, 1) := by decide +kernel
theorem dX11_any_31 : decode cX11_any 31 = .ok (.bipush 32, 2) := by decide +kernel
theorem dX11_any_33 : decode cX11_any 33 = .ok (.iconst 0, 1) := by decide +kernel
theorem dX11_any_34 : decode cX11_any 34 = .ok (.invokevirtual 238, 3) := by decide +kernel
theorem dX11_any_37 : decode cX11_any 37 = .ok (.goto (-28), 3) := by decide +kernel
theorem dX11_any_40 : decode cX11_any 40 = .ok (.iconst 1, 1) := by decide +kernel
theorem dX11_any_41 : decode cX11_any 41 = .ok (.ireturn, 1) := by decide +kernel
theorem dX11_every_0 : decode cX11_every 0 = .ok (.aload_n 0, 1) := by decide +kernel
theorem dX11_every_1 : decode cX11_every 1 = .ok (.invokevirtual 247, 3) := by decide +kernel
theorem dX11_every_4 : decode cX11_every 4 = .ok (.ifCond .ne 5, 3) := by decide +kernel
theorem dX11_every_7 : decode cX11_every 7 = .ok (.iconst 0, 1) := by decide +kernel
theorem dX11_every_8 : decode cX11_every 8 = .ok (.ireturn, 1) := by decide +kernel
theorem dX11_every_9 : decode cX11_every 9 = .ok (.aload_n 0, 1) := by decide +kernel
theorem dX11_every_10 : decode cX11_every 10 = .ok (.getfield 201, 3) := by decide +kernel
theorem dX11_every_13 : decode cX11_every 13 = .ok (.iconst 5, 1) := by decide +kernel
theorem dX11_every_14 : decode cX11_every 14 = .ok (.if_icmp .ne 26, 3) := by decide +kernel
theorem dX11_every_17 : decode cX11_every 17 = .ok (.aload_n 0, 1) := by decide +kernel
theorem dX11_every_18 : decode cX11_every 18 = .ok (.invokevirtual 225, 3) := by decide +kernel
theorem dX11_every_21 : decode cX11_every 21 = .ok (.aload_n 0, 1) := by decide +kernel
theorem dX11_every_22 : decode cX11_every 22 = .ok (.invokevirtual 247, 3) := by decide +kernel
theorem dX11_every_25 : decode cX11_every 25 = .ok (.ifCond .ne 5, 3) := by decide +kernel
theorem dX11_every_28 : decode cX11_every 28 = .ok (.iconst 0, 1) := by decide +kernel
theorem dX11_every_29 : decode cX11_every 29 = .ok (.ireturn, 1) := by decide +kernel
theorem dX11_every_30 : decode cX11_every 30 = .ok (.aload_n 0, 1) := by decide +kernel
theorem dX11_every_31 : decode cX11_every 31 = .ok (.bipush 31, 2) := by decide +kernel
theorem dX11_every_33 : decode cX11_every 33 = .ok (.iconst 0, 1) := by decide +kernel
theorem dX11_every_34 : decode cX11_every 34 = .ok (.invokevirtual 238, 3) := by decide +kernel
theorem dX11_every_37 : decode cX11_every 37 = .ok (.goto (-28), 3) := by decide +kernel
theorem dX11_every_40 : decode cX11_every 40 = .ok (.iconst 1, 1) := by decide +kernel
theorem dX11_every_41 : decode cX11_every 41 = .ok (.ireturn, 1) := by decide +kernel
theorem dX11_oneTest_0 : decode cX11_oneTest 0 = .ok (.aload_n 0, 1) := by decide +kernel
theorem dX11_oneTest_1 : decode cX11_oneTest 1 = .ok (.getfield 201, 3) := by decide +kernel
theorem dX11_oneTest_4 : decode cX11_oneTest 4 = .ok (.bipush 6, 2) := by decide +kernel
theorem dX11_oneTest_6 : decode cX11_oneTest 6 = .ok (.if_icmp .ne 38, 3) := by decide +kernel
theorem dX11_oneTest_9 : decode cX11_oneTest 9 = .ok (.aload_n 0, 1) := by decide +kernel
theorem dX11_oneTest_10 : decode cX11_oneTest 10 = .ok (.invokevirtual 250, 3) := by decide +kernel
theorem dX11_oneTest_13 : decode cX11_oneTest 13 = .ok (.ifCond .eq 10, 3) := by decide +kernel
theorem dX11_oneTest_16 : decode cX11_oneTest 16 = .ok (.aload_n 0, 1) := by decide +kernel
theorem dX11_oneTest_17 : decode cX11_oneTest 17 = .ok (.invokevirtual 247, 3) := by decide +kernel
theorem dX11_oneTest_20 : decode cX11_oneTest 20 = .ok (.ifCond .ne 5, 3) := by decide +kernel
theorem dX11_oneTest_23 : decode cX11_oneTest 23 = .ok (.iconst 0, 1) := by decide +kernel
theorem dX11_oneTest_24 : decode cX11_oneTest 24 = .ok (.ireturn, 1) := by decide +kernel
theorem dX11_oneTest_25 : decode cX11_oneTest 25 = .ok (.aload_n 0, 1) := by decide +kernel
theorem dX11_oneTest_26 : decode cX11_oneTest 26 = .ok (.dup, 1) := by decide +kernel
theorem dX11_oneTest_27 : decode cX11_oneTest 27 = .ok (.getfield 231, 3) := by decide +kernel
theorem dX11_oneTest_30 : decode cX11_oneTest 30 = .ok (.iconst 1, 1) := by decide +kernel
theorem dX11_oneTest_31 : decode cX11_oneTest 31 = .ok (.isub, 1) := by decide +kernel
theorem dX11_oneTest_32 : decode cX11_oneTest 32 = .ok (.putfield 231, 3) := by decide +kernel
theorem dX11_oneTest_35 : decode cX11_oneTest 35 = .ok (.aload_n 0, 1) := by decide +kernel
theorem dX11_oneTest_36 : decode cX11_oneTest 36 = .ok (.bipush 30, 2) := by decide +kernel
theorem dX11_oneTest_38 : decode cX11_oneTest 38 = .ok (.iconst 0, 1) := by decide +kernel
theorem dX11_oneTest_39 : decode cX11_oneTest 39 = .ok (.invokevirtual 238, 3) := by decide +kernel
theorem dX11_oneTest_42 : decode cX11_oneTest 42 = .ok (.iconst 1, 1) := by decide +kernel
theorem dX11_oneTest_43 : decode cX11_oneTest 43 = .ok (.ireturn, 1) := by decide +kernel
theorem dX11_oneTest_44 : decode cX11_oneTest 44 = .ok (.aload_n 0, 1) := by decide +kernel
theorem dX11_oneTest_45 : decode cX11_oneTest 45 = .ok (.getfield 201, 3) := by decide +kernel
theorem dX11_oneTest_48 : decode cX11_oneTest 48 = .ok (.sipush 140, 3) := by decide +kernel
theorem dX11_oneTest_51 : decode cX11_oneTest 51 = .ok (.if_icmp .ne 41, 3) := by decide +kernel
theorem dX11_oneTest_54 : decode cX11_oneTest 54 = .ok (.aload_n 0, 1) := by decide +kernel
theorem dX11_oneTest_55 : decode cX11_oneTest 55 = .ok (.invokevirtual 250, 3) := by decide +kernel
theorem dX11_oneTest_58 : decode cX11_oneTest 58 = .ok (.ifCond .eq 20, 3) := by decide +kernel
theorem dX11_oneTest_61 : decode cX11_oneTest 61 = .ok (.aload_n 0, 1) := by decide +kernel
theorem dX11_oneTest_62 : decode cX11_oneTest 62 = .ok (.invokevirtual 253, 3) := by decide +kernel
theorem dX11_oneTest_65 : decode cX11_oneTest 65 = .ok (.ifCond .eq 13, 3) := by decide +kernel
theorem dX11_oneTest_68 : decode cX11_oneTest 68 = .ok (.aload_n 0, 1) := by decide +kernel
theorem dX11_oneTest_69 : decode cX11_oneTest 69 = .ok (.sipush 141, 3) := by decide +kernel
theorem dX11_oneTest_72 : decode cX11_oneTest 72 = .ok (.invokevirtual 256, 3) := by decide +kernel
theorem dX11_oneTest_75 : decode cX11_oneTest 75 = .ok (.ifCond .ne 5, 3) := by decide +kernel
theorem dX11_oneTest_78 : decode cX11_oneTest 78 = .ok (.iconst 0, 1) := by decide +kernel
theorem dX11_oneTest_79 : decode cX11_oneTest 79 = .ok (.ireturn, 1) := by decide +kernel
theorem dX11_oneTest_80 : decode cX11_oneTest 80 = .ok (.aload_n 0, 1) := by decide +kernel
theorem dX11_oneTest_81 : decode cX11_oneTest 81 = .ok (.dup, 1) := by decide +kernel
theorem dX11_oneTest_82 : decode cX11_oneTest 82 = .ok (.getfield 231, 3) := by decide +kernel
theorem dX11_oneTest_85 : decode cX11_oneTest 85 = .ok (.iconst 1, 1) := by decide +kernel
theorem dX11_oneTest_86 : decode cX11_oneTest 86 = .ok (.isub, 1) := by decide +kernel
theorem dX11_oneTest_87 : decode cX11_oneTest 87 = .ok (.putfield 231, 3) := by decide +kernel
theorem dX11_oneTest_90 : decode cX11_oneTest 90 = .ok (.iconst 1, 1) := by decide +kernel
theorem dX11_oneTest_91 : decode cX11_oneTest 91 = .ok (.ireturn, 1) := by decide +kernel
theorem dX11_oneTest_92 : decode cX11_oneTest 92 = .ok (.aload_n 0, 1) := by decide +kernel
theorem dX11_oneTest_93 : decode cX11_oneTest 93 = .ok (.invokevirtual 259, 3) := by decide +kernel
theorem dX11_oneTest_96 : decode cX11_oneTest 96 = .ok (.ifCond .ne 5, 3) := by decide +kernel
theorem dX11_oneTest_99 : decode cX11_oneTest 99 = .ok (.iconst 0, 1) := by decide +kernel
theorem dX11_oneTest_100 : decode cX11_oneTest 100 = .ok (.ireturn, 1) := by decide +kernel
theorem dX11_oneTest_101 : decode cX11_oneTest 101 = .ok (.aload_n 0, 1) := by decide +kernel
theorem dX11_oneTest_102 : decode cX11_oneTest 102 = .ok (.getfield 201, 3) := by decide +kernel
theorem dX11_oneTest_105 : decode cX11_oneTest 105 = .ok (.sipush 160, 3) := by decide +kernel
theorem dX11_oneTest_108 : decode cX11_oneTest 108 = .ok (.if_icmp .ne 8, 3) := by decide +kernel
theorem dX11_oneTest_111 : decode cX11_oneTest 111 = .ok (.bipush 27, 2) := by decide +kernel
theorem dX11_oneTest_113 : decode cX11_oneTest 113 = .ok (.goto 34, 3) := by decide +kernel
theorem dX11_oneTest_116 : decode cX11_oneTest 116 = .ok (.aload_n 0, 1) := by decide +kernel
theorem dX11_oneTest_117 : decode cX11_oneTest 117 = .ok (.getfield 201, 3) := by decide +kernel
theorem dX11_oneTest_120 : decode cX11_oneTest 120 = .ok (.sipush 161, 3) := by decide +kernel
theorem dX11_oneTest_123 : decode cX11_oneTest 123 = .ok (.if_icmp .ne 8, 3) := by decide +kernel
theorem dX11_oneTest_126 : decode cX11_oneTest 126 = .ok (.bipush 28, 2) := by decide +kernel
theorem dX11_oneTest_128 : decode cX11_oneTest 128 = .ok (.goto 19, 3) := by decide +kernel
theorem dX11_oneTest_131 : decode cX11_oneTest 131 = .ok (.aload_n 0, 1) := by decide +kernel
theorem dX11_oneTest_132 : decode cX11_oneTest 132 = .ok (.getfield 201, 3) := by decide +kernel
theorem dX11_oneTest_135 : decode cX11_oneTest 135 = .ok (.sipush 162, 3) := by decide +kernel
theorem dX11_oneTest_138 : decode cX11_oneTest 138 = .ok (.if_icmp .ne 8, 3) := by decide +kernel
theorem dX11_oneTest_141 : decode cX11_oneTest 141 = .ok (.bipush 29, 2) := by decide +kernel
theorem dX11_oneTest_143 : decode cX11_oneTest 143 = .ok (.goto 4, 3) := by decide +kernel
theorem dX11_oneTest_146 : decode cX11_oneTest 146 = .ok (.iconst (-1), 1) := by decide +kernel
theorem dX11_oneTest_147 : decode cX11_oneTest 147 = .ok (.istore_n 1, 1) := by decide +kernel
theorem dX11_oneTest_148 : decode cX11_oneTest 148 = .ok (.iload_n 1, 1) := by decide +kernel
theorem dX11_oneTest_149 : decode cX11_oneTest 149 = .ok (.iconst (-1), 1) := by decide +kernel
theorem dX11_oneTest_150 : decode cX11_oneTest 150 = .ok (.if_icmp .ne 9, 3) := by decide +kernel
theorem dX11_oneTest_153 : decode cX11_oneTest 153 = .ok (.aload_n 0, 1) := by decide +kernel
theorem dX11_oneTest_154 : decode cX11_oneTest 154 = .ok (.iconst 1, 1) := by decide +kernel
theorem dX11_oneTest_155 : decode cX11_oneTest 155 = .ok (.invokevirtual 222, 3) := by decide +kernel
theorem dX11_oneTest_158 : decode cX11_oneTest 158 = .ok (.ireturn, 1) := by decide +kernel
theorem dX11_oneTest_159 : decode cX11_oneTest 159 = .ok (.aload_n 0, 1) := by decide +kernel
theorem dX11_oneTest_160 : decode cX11_oneTest 160 = .ok (.invokevirtual 225, 3) := by decide +kernel
theorem dX11_oneTest_163 : decode cX11_oneTest 163 = .ok (.aload_n 0, 1) := by decide +kernel
theorem dX11_oneTest_164 : decode cX11_oneTest 164 = .ok (.invokevirtual 259, 3) := by decide +kernel
theorem dX11_oneTest_167 : decode cX11_oneTest 167 = .ok (.ifCond .ne 5, 3) := by decide +kernel
theorem dX11_oneTest_170 : decode cX11_oneTest 170 = .ok (.iconst 0, 1) := by decide +kernel
theorem dX11_oneTest_171 : decode cX11_oneTest 171 = .ok (.ireturn, 1) := by decide +kernel
theorem dX11_oneTest_172 : decode cX11_oneTest 172 = .ok (.aload_n 0, 1) := by decide +kernel
theorem dX11_oneTest_173 : decode cX11_oneTest 173 = .ok (.iload_n 1, 1) := by decide +kernel
theorem dX11_oneTest_174 : decode cX11_oneTest 174 = .ok (.iconst 0, 1) := by decide +kernel
theorem dX11_oneTest_175 : decode cX11_oneTest 175 = .ok (.invokevirtual 238, 3) := by decide +kernel
theorem dX11_oneTest_178 : decode cX11_oneTest 178 = .ok (.iconst 1, 1) := by decide +kernel
theorem dX11_oneTest_179 : decode cX11_oneTest 179 = .ok (.ireturn, 1) := by decide +kernel
theorem dX11_aLine_0 : decode cX11_aLine 0 = .ok (.aload_n 0, 1) := by decide +kernel
theorem dX11_aLine_1 : decode cX11_aLine 1 = .ok (.getfield 201, 3) := by decide +kernel
theorem dX11_aLine_4 : decode cX11_aLine 4 = .ok (.bipush 20, 2) := by decide +kernel
theorem dX11_aLine_6 : decode cX11_aLine 6 = .ok (.bipush 22, 2) := by decide +kernel
theorem dX11_aLine_8 : decode cX11_aLine 8 = .ok (.invokestatic 89, 3) := by decide +kernel
theorem dX11_aLine_11 : decode cX11_aLine 11 = .ok (.ifCond .ne 9, 3) := by decide +kernel
theorem dX11_aLine_14 : decode cX11_aLine 14 = .ok (.aload_n 0, 1) := by decide +kernel
theorem dX11_aLine_15 : decode cX11_aLine 15 = .ok (.iconst 1, 1) := by decide +kernel
theorem dX11_aLine_16 : decode cX11_aLine 16 = .ok (.invokevirtual 222, 3) := by decide +kernel
theorem dX11_aLine_19 : decode cX11_aLine 19 = .ok (.ireturn, 1) := by decide +kernel
theorem dX11_aLine_20 : decode cX11_aLine 20 = .ok (.aload_n 0, 1) := by decide +kernel
theorem dX11_aLine_21 : decode cX11_aLine 21 = .ok (.getfield 262, 3) := by decide +kernel
theorem dX11_aLine_24 : decode cX11_aLine 24 = .ok (.bipush 16, 2) := by decide +kernel
theorem dX11_aLine_26 : decode cX11_aLine 26 = .ok (.if_icmp .ne 9, 3) := by decide +kernel
theorem dX11_aLine_29 : decode cX11_aLine 29 = .ok (.aload_n 0, 1) := by decide +kernel
theorem dX11_aLine_30 : decode cX11_aLine 30 = .ok (.iconst 3, 1) := by decide +kernel
theorem dX11_aLine_31 : decode cX11_aLine 31 = .ok (.invokevirtual 222, 3) := by decide +kernel
theorem dX11_aLine_34 : decode cX11_aLine 34 = .ok (.ireturn, 1) := by decide +kernel
theorem dX11_aLine_35 : decode cX11_aLine 35 = .ok (.aload_n 0, 1) := by decide +kernel
theorem dX11_aLine_36 : decode cX11_aLine 36 = .ok (.iconst 0, 1) := by decide +kernel
theorem dX11_aLine_37 : decode cX11_aLine 37 = .ok (.putfield 231, 3) := by decide +kernel
theorem dX11_aLine_40 : decode cX11_aLine 40 = .ok (.aload_n 0, 1) := by decide +kernel
theorem dX11_aLine_41 : decode cX11_aLine 41 = .ok (.getfield 22, 3) := by decide +kernel
theorem dX11_aLine_44 : decode cX11_aLine 44 = .ok (.iconst 4, 1) := by decide +kernel
theorem dX11_aLine_45 : decode cX11_aLine 45 = .ok (.aload_n 0, 1) := by decide +kernel
theorem dX11_aLine_46 : decode cX11_aLine 46 = .ok (.getfield 262, 3) := by decide +kernel
theorem dX11_aLine_49 : decode cX11_aLine 49 = .ok (.imul, 1) := by decide +kernel
theorem dX11_aLine_50 : decode cX11_aLine 50 = .ok (.iconst 3, 1) := by decide +kernel
theorem dX11_aLine_51 : decode cX11_aLine 51 = .ok (.iadd, 1) := by decide +kernel
theorem dX11_aLine_52 : decode cX11_aLine 52 = .ok (.aload_n 0, 1) := by decide +kernel
theorem dX11_aLine_53 : decode cX11_aLine 53 = .ok (.getfield 201, 3) := by decide +kernel
theorem dX11_aLine_56 : decode cX11_aLine 56 = .ok (.iastore, 1) := by decide +kernel
theorem dX11_aLine_57 : decode cX11_aLine 57 = .ok (.aload_n 0, 1) := by decide +kernel
theorem dX11_aLine_58 : decode cX11_aLine 58 = .ok (.invokevirtual 225, 3) := by decide +kernel
theorem dX11_aLine_61 : decode cX11_aLine 61 = .ok (.aload_n 0, 1) := by decide +kernel
theorem dX11_aLine_62 : decode cX11_aLine 62 = .ok (.getfield 22, 3) := by decide +kernel
theorem dX11_aLine_65 : decode cX11_aLine 65 = .ok (.iconst 4, 1) := by decide +kernel
theorem dX11_aLine_66 : decode cX11_aLine 66 = .ok (.aload_n 0, 1) := by decide +kernel
theorem dX11_aLine_67 : decode cX11_aLine 67 = .ok (.getfield 262, 3) := by decide +kernel
theorem dX11_aLine_70 : decode cX11_aLine 70 = .ok (.imul, 1) := by decide +kernel
theorem dX11_aLine_71 : decode cX11_aLine 71 = .ok (.aload_n 0, 1) := by decide +kernel
theorem dX11_aLine_72 : decode cX11_aLine 72 = .ok (.getfield 228, 3) := by decide +kernel
theorem dX11_aLine_75 : decode cX11_aLine 75 = .ok (.iastore, 1) := by decide +kernel
theorem dX11_aLine_76 : decode cX11_aLine 76 = .ok (.aload_n 0, 1) := by decide +kernel
theorem dX11_aLine_77 : decode cX11_aLine 77 = .ok (.invokevirtual 259, 3) := by decide +kernel
theorem dX11_aLine_80 : decode cX11_aLine 80 = .ok (.ifCond .ne 5, 3) := by decide +kernel
theorem dX11_aLine_83 : decode cX11_aLine 83 = .ok (.iconst 0, 1) := by decide +kernel
theorem dX11_aLine_84 : decode cX11_aLine 84 = .ok (.ireturn, 1) := by decide +kernel
theorem dX11_aLine_85 : decode cX11_aLine 85 = .ok (.aload_n 0, 1) := by decide +kernel
theorem dX11_aLine_86 : decode cX11_aLine 86 = .ok (.getfield 22, 3) := by decide +kernel
theorem dX11_aLine_89 : decode cX11_aLine 89 = .ok (.iconst 4, 1) := by decide +kernel
theorem dX11_aLine_90 : decode cX11_aLine 90 = .ok (.aload_n 0, 1) := by decide +kernel
theorem dX11_aLine_91 : decode cX11_aLine 91 = .ok (.getfield 262, 3) := by decide +kernel
theorem dX11_aLine_94 : decode cX11_aLine 94 = .ok (.imul, 1) := by decide +kernel
theorem dX11_aLine_95 : decode cX11_aLine 95 = .ok (.iconst 1, 1) := by decide +kernel
theorem dX11_aLine_96 : decode cX11_aLine 96 = .ok (.iadd, 1) := by decide +kernel
theorem dX11_aLine_97 : decode cX11_aLine 97 = .ok (.aload_n 0, 1) := by decide +kernel
theorem dX11_aLine_98 : decode cX11_aLine 98 = .ok (.getfield 228, 3) := by decide +kernel
theorem dX11_aLine_101 : decode cX11_aLine 101 = .ok (.iastore, 1) := by decide +kernel
theorem dX11_aLine_102 : decode cX11_aLine 102 = .ok (.aload_n 0, 1) := by decide +kernel
theorem dX11_aLine_103 : decode cX11_aLine 103 = .ok (.getfield 201, 3) := by decide +kernel
theorem dX11_aLine_106 : decode cX11_aLine 106 = .ok (.iconst 3, 1) := by decide +kernel
theorem dX11_aLine_107 : decode cX11_aLine 107 = .ok (.if_icmp .ne 16, 3) := by decide +kernel
theorem dX11_aLine_110 : decode cX11_aLine 110 = .ok (.aload_n 0, 1) := by decide +kernel
theorem dX11_aLine_111 : decode cX11_aLine 111 = .ok (.invokevirtual 225, 3) := by decide +kernel
theorem dX11_aLine_114 : decode cX11_aLine 114 = .ok (.aload_n 0, 1) := by decide +kernel
theorem dX11_aLine_115 : decode cX11_aLine 115 = .ok (.invokevirtual 253, 3) := by decide +kernel
theorem dX11_aLine_118 : decode cX11_aLine 118 = .ok (.ifCond .ne 5, 3) := by decide +kernel
theorem dX11_aLine_121 : decode cX11_aLine 121 = .ok (.iconst 0, 1) := by decide +kernel
theorem dX11_aLine_122 : decode cX11_aLine 122 = .ok (.ireturn, 1) := by decide +kernel
theorem dX11_aLine_123 : decode cX11_aLine 123 = .ok (.aload_n 0, 1) := by decide +kernel
theorem dX11_aLine_124 : decode cX11_aLine 124 = .ok (.getfield 22, 3) := by decide +kernel
theorem dX11_aLine_127 : decode cX11_aLine 127 = .ok (.iconst 4, 1) := by decide +kernel
theorem dX11_aLine_128 : decode cX11_aLine 128 = .ok (.aload_n 0, 1) := by decide +kernel
theorem dX11_aLine_129 : decode cX11_aLine 129 = .ok (.getfield 262, 3) := by decide +kernel
theorem dX11_aLine_132 : decode cX11_aLine 132 = .ok (.imul, 1) := by decide +kernel
theorem dX11_aLine_133 : decode cX11_aLine 133 = .ok (.iconst 2, 1) := by decide +kernel
theorem dX11_aLine_134 : decode cX11_aLine 134 = .ok (.iadd, 1) := by decide +kernel
theorem dX11_aLine_135 : decode cX11_aLine 135 = .ok (.aload_n 0, 1) := by decide +kernel
theorem dX11_aLine_136 : decode cX11_aLine 136 = .ok (.getfield 228, 3) := by decide +kernel
theorem dX11_aLine_139 : decode cX11_aLine 139 = .ok (.iastore, 1) := by decide +kernel
theorem dX11_aLine_140 : decode cX11_aLine 140 = .ok (.aload_n 0, 1) := by decide +kernel
theorem dX11_aLine_141 : decode cX11_aLine 141 = .ok (.sipush 159, 3) := by decide +kernel
theorem dX11_aLine_144 : decode cX11_aLine 144 = .ok (.invokevirtual 256, 3) := by decide +kernel
theorem dX11_aLine_147 : decode cX11_aLine 147 = .ok (.ireturn, 1) := by decide +kernel
theorem dX11_readsLaw_0 : decode cX11_readsLaw 0 = .ok (.aload_n 0, 1) := by decide +kernel
theorem dX11_readsLaw_1 : decode cX11_readsLaw 1 = .ok (.iconst 0, 1) := by decide +kernel
theorem dX11_readsLaw_2 : decode cX11_readsLaw 2 = .ok (.putfield 262, 3) := by decide +kernel
theorem dX11_readsLaw_5 : decode cX11_readsLaw 5 = .ok (.aload_n 0, 1) := by decide +kernel
theorem dX11_readsLaw_6 : decode cX11_readsLaw 6 = .ok (.iconst 0, 1) := by decide +kernel
theorem dX11_readsLaw_7 : decode cX11_readsLaw 7 = .ok (.putfield 228, 3) := by decide +kernel
theorem dX11_readsLaw_10 : decode cX11_readsLaw 10 = .ok (.iconst 1, 1) := by decide +kernel
theorem dX11_readsLaw_11 : decode cX11_readsLaw 11 = .ok (.istore_n 1, 1) := by decide +kernel
theorem dX11_readsLaw_12 : decode cX11_readsLaw 12 = .ok (.iload_n 1, 1) := by decide +kernel
theorem dX11_readsLaw_13 : decode cX11_readsLaw 13 = .ok (.ifCond .eq 36, 3) := by decide +kernel
theorem dX11_readsLaw_16 : decode cX11_readsLaw 16 = .ok (.aload_n 0, 1) := by decide +kernel
theorem dX11_readsLaw_17 : decode cX11_readsLaw 17 = .ok (.getfield 201, 3) := by decide +kernel
theorem dX11_readsLaw_20 : decode cX11_readsLaw 20 = .ok (.ifCond .eq 29, 3) := by decide +kernel
theorem dX11_readsLaw_23 : decode cX11_readsLaw 23 = .ok (.aload_n 0, 1) := by decide +kernel
theorem dX11_readsLaw_24 : decode cX11_readsLaw 24 = .ok (.invokevirtual 265, 3) := by decide +kernel
theorem dX11_readsLaw_27 : decode cX11_readsLaw 27 = .ok (.istore_n 1, 1) := by decide +kernel
theorem dX11_readsLaw_28 : decode cX11_readsLaw 28 = .ok (.aload_n 0, 1) := by decide +kernel
theorem dX11_readsLaw_29 : decode cX11_readsLaw 29 = .ok (.dup, 1) := by decide +kernel
theorem dX11_readsLaw_30 : decode cX11_readsLaw 30 = .ok (.getfield 262, 3) := by decide +kernel
theorem dX11_readsLaw_33 : decode cX11_readsLaw 33 = .ok (.iload_n 1, 1) := by decide +kernel
theorem dX11_readsLaw_34 : decode cX11_readsLaw 34 = .ok (.ifCond .eq 7, 3) := by decide +kernel
theorem dX11_readsLaw_37 : decode cX11_readsLaw 37 = .ok (.iconst 1, 1) := by decide +kernel
theorem dX11_readsLaw_38 : decode cX11_readsLaw 38 = .ok (.goto 4, 3) := by decide +kernel
theorem dX11_readsLaw_41 : decode cX11_readsLaw 41 = .ok (.iconst 0, 1) := by decide +kernel
theorem dX11_readsLaw_42 : decode cX11_readsLaw 42 = .ok (.iadd, 1) := by decide +kernel
theorem dX11_readsLaw_43 : decode cX11_readsLaw 43 = .ok (.putfield 262, 3) := by decide +kernel
theorem dX11_readsLaw_46 : decode cX11_readsLaw 46 = .ok (.goto (-34), 3) := by decide +kernel
theorem dX11_readsLaw_49 : decode cX11_readsLaw 49 = .ok (.iload_n 1, 1) := by decide +kernel
theorem dX11_readsLaw_50 : decode cX11_readsLaw 50 = .ok (.ireturn, 1) := by decide +kernel
theorem dX11_number_0 : decode cX11_number 0 = .ok (.aload_n 0, 1) := by decide +kernel
theorem dX11_number_1 : decode cX11_number 1 = .ok (.getfield 201, 3) := by decide +kernel
theorem dX11_number_4 : decode cX11_number 4 = .ok (.iconst 2, 1) := by decide +kernel
theorem dX11_number_5 : decode cX11_number 5 = .ok (.if_icmp .eq 9, 3) := by decide +kernel
theorem dX11_number_8 : decode cX11_number 8 = .ok (.aload_n 0, 1) := by decide +kernel
theorem dX11_number_9 : decode cX11_number 9 = .ok (.iconst 1, 1) := by decide +kernel
theorem dX11_number_10 : decode cX11_number 10 = .ok (.invokevirtual 222, 3) := by decide +kernel
theorem dX11_number_13 : decode cX11_number 13 = .ok (.ireturn, 1) := by decide +kernel
theorem dX11_number_14 : decode cX11_number 14 = .ok (.aload_n 0, 1) := by decide +kernel
theorem dX11_number_15 : decode cX11_number 15 = .ok (.getfield 213, 3) := by decide +kernel
theorem dX11_number_18 : decode cX11_number 18 = .ok (.iload_n 2, 1) := by decide +kernel
theorem dX11_number_19 : decode cX11_number 19 = .ok (.iload_n 3, 1) := by decide +kernel
theorem dX11_number_20 : decode cX11_number 20 = .ok (.invokestatic 89, 3) := by decide +kernel
theorem dX11_number_23 : decode cX11_number 23 = .ok (.ifCond .ne 9, 3) := by decide +kernel
theorem dX11_number_26 : decode cX11_number 26 = .ok (.aload_n 0, 1) := by decide +kernel
theorem dX11_number_27 : decode cX11_number 27 = .ok (.iconst 2, 1) := by decide +kernel
theorem dX11_number_28 : decode cX11_number 28 = .ok (.invokevirtual 222, 3) := by decide +kernel
theorem dX11_number_31 : decode cX11_number 31 = .ok (.ireturn, 1) := by decide +kernel
theorem dX11_number_32 : decode cX11_number 32 = .ok (.aload_n 0, 1) := by decide +kernel
theorem dX11_number_33 : decode cX11_number 33 = .ok (.getfield 28, 3) := by decide +kernel
theorem dX11_number_36 : decode cX11_number 36 = .ok (.iload_n 1, 1) := by decide +kernel
theorem dX11_number_37 : decode cX11_number 37 = .ok (.aload_n 0, 1) := by decide +kernel
theorem dX11_number_38 : decode cX11_number 38 = .ok (.getfield 213, 3) := by decide +kernel
theorem dX11_number_41 : decode cX11_number 41 = .ok (.iastore, 1) := by decide +kernel
theorem dX11_number_42 : decode cX11_number 42 = .ok (.aload_n 0, 1) := by decide +kernel
theorem dX11_number_43 : decode cX11_number 43 = .ok (.invokevirtual 225, 3) := by decide +kernel
theorem dX11_number_46 : decode cX11_number 46 = .ok (.iconst 1, 1) := by decide +kernel
theorem dX11_number_47 : decode cX11_number 47 = .ok (.ireturn, 1) := by decide +kernel
theorem dX11_told_0 : decode cX11_told 0 = .ok (.aload_n 0, 1) := by decide +kernel
theorem dX11_told_1 : decode cX11_told 1 = .ok (.iload_n 2, 1) := by decide +kernel
theorem dX11_told_2 : decode cX11_told 2 = .ok (.invokevirtual 256, 3) := by decide +kernel
theorem dX11_told_5 : decode cX11_told 5 = .ok (.ifCond .eq 18, 3) := by decide +kernel
theorem dX11_told_8 : decode cX11_told 8 = .ok (.aload_n 0, 1) := by decide +kernel
theorem dX11_told_9 : decode cX11_told 9 = .ok (.iload_n 1, 1) := by decide +kernel
theorem dX11_told_10 : decode cX11_told 10 = .ok (.iload_n 3, 1) := by decide +kernel
theorem dX11_told_11 : decode cX11_told 11 = .ok (.iload 4, 2) := by decide +kernel
theorem dX11_told_13 : decode cX11_told 13 = .ok (.invokevirtual 268, 3) := by decide +kernel
theorem dX11_told_16 : decode cX11_told 16 = .ok (.ifCond .eq 7, 3) := by decide +kernel
theorem dX11_told_19 : decode cX11_told 19 = .ok (.iconst 1, 1) := by decide +kernel
theorem dX11_told_20 : decode cX11_told 20 = .ok (.goto 4, 3) := by decide +kernel
theorem dX11_told_23 : decode cX11_told 23 = .ok (.iconst 0, 1) := by decide +kernel
theorem dX11_told_24 : decode cX11_told 24 = .ok (.ireturn, 1) := by decide +kernel
theorem dX11_aField_0 : decode cX11_aField 0 = .ok (.aload_n 0, 1) := by decide +kernel
theorem dX11_aField_1 : decode cX11_aField 1 = .ok (.iload_n 2, 1) := by decide +kernel
theorem dX11_aField_2 : decode cX11_aField 2 = .ok (.invokevirtual 256, 3) := by decide +kernel
theorem dX11_aField_5 : decode cX11_aField 5 = .ok (.ifCond .ne 5, 3) := by decide +kernel
theorem dX11_aField_8 : decode cX11_aField 8 = .ok (.iconst 0, 1) := by decide +kernel
theorem dX11_aField_9 : decode cX11_aField 9 = .ok (.ireturn, 1) := by decide +kernel
theorem dX11_aField_10 : decode cX11_aField 10 = .ok (.aload_n 0, 1) := by decide +kernel
theorem dX11_aField_11 : decode cX11_aField 11 = .ok (.getfield 201, 3) := by decide +kernel
theorem dX11_aField_14 : decode cX11_aField 14 = .ok (.iconst 2, 1) := by decide +kernel
theorem dX11_aField_15 : decode cX11_aField 15 = .ok (.if_icmp .ne 20, 3) := by decide +kernel
theorem dX11_aField_18 : decode cX11_aField 18 = .ok (.aload_n 0, 1) := by decide +kernel
theorem dX11_aField_19 : decode cX11_aField 19 = .ok (.aload_n 0, 1) := by decide +kernel
theorem dX11_aField_20 : decode cX11_aField 20 = .ok (.getfield 213, 3) := by decide +kernel
theorem dX11_aField_23 : decode cX11_aField 23 = .ok (.invokevirtual 82, 3) := by decide +kernel
theorem dX11_aField_26 : decode cX11_aField 26 = .ok (.ifCond .ne 9, 3) := by decide +kernel
theorem dX11_aField_29 : decode cX11_aField 29 = .ok (.aload_n 0, 1) := by decide +kernel
theorem dX11_aField_30 : decode cX11_aField 30 = .ok (.iconst 2, 1) := by decide +kernel
theorem dX11_aField_31 : decode cX11_aField 31 = .ok (.invokevirtual 222, 3) := by decide +kernel
theorem dX11_aField_34 : decode cX11_aField 34 = .ok (.ireturn, 1) := by decide +kernel
theorem dX11_aField_35 : decode cX11_aField 35 = .ok (.aload_n 0, 1) := by decide +kernel
theorem dX11_aField_36 : decode cX11_aField 36 = .ok (.iload_n 1, 1) := by decide +kernel
theorem dX11_aField_37 : decode cX11_aField 37 = .ok (.iconst 0, 1) := by decide +kernel
theorem dX11_aField_38 : decode cX11_aField 38 = .ok (.bipush 63, 2) := by decide +kernel
theorem dX11_aField_40 : decode cX11_aField 40 = .ok (.invokevirtual 268, 3) := by decide +kernel
theorem dX11_aField_43 : decode cX11_aField 43 = .ok (.ireturn, 1) := by decide +kernel
theorem dX11_aVow_0 : decode cX11_aVow 0 = .ok (.iconst 4, 1) := by decide +kernel
theorem dX11_aVow_1 : decode cX11_aVow 1 = .ok (.aload_n 0, 1) := by decide +kernel
theorem dX11_aVow_2 : decode cX11_aVow 2 = .ok (.getfield 271, 3) := by decide +kernel
theorem dX11_aVow_5 : decode cX11_aVow 5 = .ok (.imul, 1) := by decide +kernel
theorem dX11_aVow_6 : decode cX11_aVow 6 = .ok (.istore_n 1, 1) := by decide +kernel
theorem dX11_aVow_7 : decode cX11_aVow 7 = .ok (.aload_n 0, 1) := by decide +kernel
theorem dX11_aVow_8 : decode cX11_aVow 8 = .ok (.iload_n 1, 1) := by decide +kernel
theorem dX11_aVow_9 : decode cX11_aVow 9 = .ok (.bipush 7, 2) := by decide +kernel
theorem dX11_aVow_11 : decode cX11_aVow 11 = .ok (.iconst 0, 1) := by decide +kernel
theorem dX11_aVow_12 : decode cX11_aVow 12 = .ok (.sipush 999, 3) := by decide +kernel
theorem dX11_aVow_15 : decode cX11_aVow 15 = .ok (.invokevirtual 274, 3) := by decide +kernel
theorem dX11_aVow_18 : decode cX11_aVow 18 = .ok (.ifCond .eq 31, 3) := by decide +kernel
theorem dX11_aVow_21 : decode cX11_aVow 21 = .ok (.aload_n 0, 1) := by decide +kernel
theorem dX11_aVow_22 : decode cX11_aVow 22 = .ok (.iload_n 1, 1) := by decide +kernel
theorem dX11_aVow_23 : decode cX11_aVow 23 = .ok (.iconst 1, 1) := by decide +kernel
theorem dX11_aVow_24 : decode cX11_aVow 24 = .ok (.iadd, 1) := by decide +kernel
theorem dX11_aVow_25 : decode cX11_aVow 25 = .ok (.iconst 0, 1) := by decide +kernel
theorem dX11_aVow_26 : decode cX11_aVow 26 = .ok (.aload_n 0, 1) := by decide +kernel
theorem dX11_aVow_27 : decode cX11_aVow 27 = .ok (.getfield 7, 3) := by decide +kernel
theorem dX11_aVow_30 : decode cX11_aVow 30 = .ok (.bipush 85, 2) := by decide +kernel
theorem dX11_aVow_32 : decode cX11_aVow 32 = .ok (.iaload, 1) := by decide +kernel
theorem dX11_aVow_33 : decode cX11_aVow 33 = .ok (.iconst 1, 1) := by decide +kernel
theorem dX11_aVow_34 : decode cX11_aVow 34 = .ok (.isub, 1) := by decide +kernel
theorem dX11_aVow_35 : decode cX11_aVow 35 = .ok (.invokevirtual 268, 3) := by decide +kernel
theorem dX11_aVow_38 : decode cX11_aVow 38 = .ok (.ifCond .eq 11, 3) := by decide +kernel
theorem dX11_aVow_41 : decode cX11_aVow 41 = .ok (.aload_n 0, 1) := by decide +kernel
theorem dX11_aVow_42 : decode cX11_aVow 42 = .ok (.iconst 5, 1) := by decide +kernel
theorem dX11_aVow_43 : decode cX11_aVow 43 = .ok (.invokevirtual 256, 3) := by decide +kernel
theorem dX11_aVow_46 : decode cX11_aVow 46 = .ok (.ifCond .ne 5, 3) := by decide +kernel
theorem dX11_aVow_49 : decode cX11_aVow 49 = .ok (.iconst 0, 1) := by decide +kernel
theorem dX11_aVow_50 : decode cX11_aVow 50 = .ok (.ireturn, 1) := by decide +kernel
theorem dX11_aVow_51 : decode cX11_aVow 51 = .ok (.aload_n 0, 1) := by decide +kernel
theorem dX11_aVow_52 : decode cX11_aVow 52 = .ok (.getfield 201, 3) := by decide +kernel
theorem dX11_aVow_55 : decode cX11_aVow 55 = .ok (.iconst 2, 1) := by decide +kernel
theorem dX11_aVow_56 : decode cX11_aVow 56 = .ok (.if_icmp .ne 39, 3) := by decide +kernel
theorem dX11_aVow_59 : decode cX11_aVow 59 = .ok (.aload_n 0, 1) := by decide +kernel
theorem dX11_aVow_60 : decode cX11_aVow 60 = .ok (.aload_n 0, 1) := by decide +kernel
theorem dX11_aVow_61 : decode cX11_aVow 61 = .ok (.getfield 213, 3) := by decide +kernel
theorem dX11_aVow_64 : decode cX11_aVow 64 = .ok (.invokevirtual 97, 3) := by decide +kernel
theorem dX11_aVow_67 : decode cX11_aVow 67 = .ok (.ifCond .eq 28, 3) := by decide +kernel
theorem dX11_aVow_70 : decode cX11_aVow 70 = .ok (.aload_n 0, 1) := by decide +kernel
theorem dX11_aVow_71 : decode cX11_aVow 71 = .ok (.aload_n 0, 1) := by decide +kernel
theorem dX11_aVow_72 : decode cX11_aVow 72 = .ok (.getfield 28, 3) := by decide +kernel
theorem dX11_aVow_75 : decode cX11_aVow 75 = .ok (.iload_n 1, 1) := by decide +kernel
theorem dX11_aVow_76 : decode cX11_aVow 76 = .ok (.iconst 1, 1) := by decide +kernel
theorem dX11_aVow_77 : decode cX11_aVow 77 = .ok (.iadd, 1) := by decide +kernel
theorem dX11_aVow_78 : decode cX11_aVow 78 = .ok (.iaload, 1) := by decide +kernel
theorem dX11_aVow_79 : decode cX11_aVow 79 = .ok (.aload_n 0, 1) := by decide +kernel
theorem dX11_aVow_80 : decode cX11_aVow 80 = .ok (.getfield 213, 3) := by decide +kernel
theorem dX11_aVow_83 : decode cX11_aVow 83 = .ok (.invokevirtual 278, 3) := by decide +kernel
theorem dX11_aVow_86 : decode cX11_aVow 86 = .ok (.ifCond .ne 9, 3) := by decide +kernel
theorem dX11_aVow_89 : decode cX11_aVow 89 = .ok (.aload_n 0, 1) := by decide +kernel
theorem dX11_aVow_90 : decode cX11_aVow 90 = .ok (.iconst 2, 1) := by decide +kernel
theorem dX11_aVow_91 : decode cX11_aVow 91 = .ok (.invokevirtual 222, 3) := by decide +kernel
theorem dX11_aVow_94 : decode cX11_aVow 94 = .ok (.ireturn, 1) := by decide +kernel
theorem dX11_aVow_95 : decode cX11_aVow 95 = .ok (.aload_n 0, 1) := by decide +kernel
theorem dX11_aVow_96 : decode cX11_aVow 96 = .ok (.iload_n 1, 1) := by decide +kernel
theorem dX11_aVow_97 : decode cX11_aVow 97 = .ok (.iconst 2, 1) := by decide +kernel
theorem dX11_aVow_98 : decode cX11_aVow 98 = .ok (.iadd, 1) := by decide +kernel
theorem dX11_aVow_99 : decode cX11_aVow 99 = .ok (.iconst 0, 1) := by decide +kernel
theorem dX11_aVow_100 : decode cX11_aVow 100 = .ok (.aload_n 0, 1) := by decide +kernel
theorem dX11_aVow_101 : decode cX11_aVow 101 = .ok (.getfield 7, 3) := by decide +kernel
theorem dX11_aVow_104 : decode cX11_aVow 104 = .ok (.bipush 85, 2) := by decide +kernel
theorem dX11_aVow_106 : decode cX11_aVow 106 = .ok (.iaload, 1) := by decide +kernel
theorem dX11_aVow_107 : decode cX11_aVow 107 = .ok (.iconst 1, 1) := by decide +kernel
theorem dX11_aVow_108 : decode cX11_aVow 108 = .ok (.isub, 1) := by decide +kernel
theorem dX11_aVow_109 : decode cX11_aVow 109 = .ok (.invokevirtual 268, 3) := by decide +kernel
theorem dX11_aVow_112 : decode cX11_aVow 112 = .ok (.ifCond .eq 19, 3) := by decide +kernel
theorem dX11_aVow_115 : decode cX11_aVow 115 = .ok (.aload_n 0, 1) := by decide +kernel
theorem dX11_aVow_116 : decode cX11_aVow 116 = .ok (.iload_n 1, 1) := by decide +kernel
theorem dX11_aVow_117 : decode cX11_aVow 117 = .ok (.iconst 3, 1) := by decide +kernel
theorem dX11_aVow_118 : decode cX11_aVow 118 = .ok (.iadd, 1) := by decide +kernel
theorem dX11_aVow_119 : decode cX11_aVow 119 = .ok (.bipush 8, 2) := by decide +kernel
theorem dX11_aVow_121 : decode cX11_aVow 121 = .ok (.invokevirtual 281, 3) := by decide +kernel
theorem dX11_aVow_124 : decode cX11_aVow 124 = .ok (.ifCond .eq 7, 3) := by decide +kernel
theorem dX11_aVow_127 : decode cX11_aVow 127 = .ok (.iconst 1, 1) := by decide +kernel
theorem dX11_aVow_128 : decode cX11_aVow 128 = .ok (.goto 4, 3) := by decide +kernel
theorem dX11_aVow_131 : decode cX11_aVow 131 = .ok (.iconst 0, 1) := by decide +kernel
theorem dX11_aVow_132 : decode cX11_aVow 132 = .ok (.ireturn, 1) := by decide +kernel
theorem dX11_aWeather_0 : decode cX11_aWeather 0 = .ok (.aload_n 0, 1) := by decide +kernel
theorem dX11_aWeather_1 : decode cX11_aWeather 1 = .ok (.iconst 2, 1) := by decide +kernel
theorem dX11_aWeather_2 : decode cX11_aWeather 2 = .ok (.aload_n 0, 1) := by decide +kernel
theorem dX11_aWeather_3 : decode cX11_aWeather 3 = .ok (.getfield 271, 3) := by decide +kernel
theorem dX11_aWeather_6 : decode cX11_aWeather 6 = .ok (.imul, 1) := by decide +kernel
theorem dX11_aWeather_7 : decode cX11_aWeather 7 = .ok (.bipush 9, 2) := by decide +kernel
theorem dX11_aWeather_9 : decode cX11_aWeather 9 = .ok (.iconst 1, 1) := by decide +kernel
theorem dX11_aWeather_10 : decode cX11_aWeather 10 = .ok (.bipush 60, 2) := by decide +kernel
theorem dX11_aWeather_12 : decode cX11_aWeather 12 = .ok (.invokevirtual 274, 3) := by decide +kernel
theorem dX11_aWeather_15 : decode cX11_aWeather 15 = .ok (.ifCond .eq 27, 3) := by decide +kernel
theorem dX11_aWeather_18 : decode cX11_aWeather 18 = .ok (.aload_n 0, 1) := by decide +kernel
theorem dX11_aWeather_19 : decode cX11_aWeather 19 = .ok (.iconst 2, 1) := by decide +kernel
theorem dX11_aWeather_20 : decode cX11_aWeather 20 = .ok (.aload_n 0, 1) := by decide +kernel
theorem dX11_aWeather_21 : decode cX11_aWeather 21 = .ok (.getfield 271, 3) := by decide +kernel
theorem dX11_aWeather_24 : decode cX11_aWeather 24 = .ok (.imul, 1) := by decide +kernel
theorem dX11_aWeather_25 : decode cX11_aWeather 25 = .ok (.iconst 1, 1) := by decide +kernel
theorem dX11_aWeather_26 : decode cX11_aWeather 26 = .ok (.iadd, 1) := by decide +kernel
theorem dX11_aWeather_27 : decode cX11_aWeather 27 = .ok (.bipush 10, 2) := by decide +kernel
theorem dX11_aWeather_29 : decode cX11_aWeather 29 = .ok (.iconst 0, 1) := by decide +kernel
theorem dX11_aWeather_30 : decode cX11_aWeather 30 = .ok (.bipush 30, 2) := by decide +kernel
theorem dX11_aWeather_32 : decode cX11_aWeather 32 = .ok (.invokevirtual 274, 3) := by decide +kernel
theorem dX11_aWeather_35 : decode cX11_aWeather 35 = .ok (.ifCond .eq 7, 3) := by decide +kernel
theorem dX11_aWeather_38 : decode cX11_aWeather 38 = .ok (.iconst 1, 1) := by decide +kernel
theorem dX11_aWeather_39 : decode cX11_aWeather 39 = .ok (.goto 4, 3) := by decide +kernel
theorem dX11_aWeather_42 : decode cX11_aWeather 42 = .ok (.iconst 0, 1) := by decide +kernel
theorem dX11_aWeather_43 : decode cX11_aWeather 43 = .ok (.ireturn, 1) := by decide +kernel
theorem dX11_aWant_0 : decode cX11_aWant 0 = .ok (.aload_n 0, 1) := by decide +kernel
theorem dX11_aWant_1 : decode cX11_aWant 1 = .ok (.iconst 3, 1) := by decide +kernel
theorem dX11_aWant_2 : decode cX11_aWant 2 = .ok (.aload_n 0, 1) := by decide +kernel
theorem dX11_aWant_3 : decode cX11_aWant 3 = .ok (.getfield 271, 3) := by decide +kernel
theorem dX11_aWant_6 : decode cX11_aWant 6 = .ok (.imul, 1) := by decide +kernel
theorem dX11_aWant_7 : decode cX11_aWant 7 = .ok (.bipush 11, 2) := by decide +kernel
theorem dX11_aWant_9 : decode cX11_aWant 9 = .ok (.invokevirtual 281, 3) := by decide +kernel
theorem dX11_aWant_12 : decode cX11_aWant 12 = .ok (.ifCond .eq 48, 3) := by decide +kernel
theorem dX11_aWant_15 : decode cX11_aWant 15 = .ok (.aload_n 0, 1) := by decide +kernel
theorem dX11_aWant_16 : decode cX11_aWant 16 = .ok (.iconst 3, 1) := by decide +kernel
theorem dX11_aWant_17 : decode cX11_aWant 17 = .ok (.aload_n 0, 1) := by decide +kernel
theorem dX11_aWant_18 : decode cX11_aWant 18 = .ok (.getfield 271, 3) := by decide +kernel
theorem dX11_aWant_21 : decode cX11_aWant 21 = .ok (.imul, 1) := by decide +kernel
theorem dX11_aWant_22 : decode cX11_aWant 22 = .ok (.iconst 1, 1) := by decide +kernel
theorem dX11_aWant_23 : decode cX11_aWant 23 = .ok (.iadd, 1) := by decide +kernel
theorem dX11_aWant_24 : decode cX11_aWant 24 = .ok (.bipush 7, 2) := by decide +kernel
theorem dX11_aWant_26 : decode cX11_aWant 26 = .ok (.iconst 0, 1) := by decide +kernel
theorem dX11_aWant_27 : decode cX11_aWant 27 = .ok (.sipush 999, 3) := by decide +kernel
theorem dX11_aWant_30 : decode cX11_aWant 30 = .ok (.invokevirtual 274, 3) := by decide +kernel
theorem dX11_aWant_33 : decode cX11_aWant 33 = .ok (.ifCond .eq 27, 3) := by decide +kernel
theorem dX11_aWant_36 : decode cX11_aWant 36 = .ok (.aload_n 0, 1) := by decide +kernel
theorem dX11_aWant_37 : decode cX11_aWant 37 = .ok (.iconst 3, 1) := by decide +kernel
theorem dX11_aWant_38 : decode cX11_aWant 38 = .ok (.aload_n 0, 1) := by decide +kernel
theorem dX11_aWant_39 : decode cX11_aWant 39 = .ok (.getfield 271, 3) := by decide +kernel
theorem dX11_aWant_42 : decode cX11_aWant 42 = .ok (.imul, 1) := by decide +kernel
theorem dX11_aWant_43 : decode cX11_aWant 43 = .ok (.iconst 2, 1) := by decide +kernel
theorem dX11_aWant_44 : decode cX11_aWant 44 = .ok (.iadd, 1) := by decide +kernel
theorem dX11_aWant_45 : decode cX11_aWant 45 = .ok (.bipush 12, 2) := by decide +kernel
theorem dX11_aWant_47 : decode cX11_aWant 47 = .ok (.iconst 1, 1) := by decide +kernel
theorem dX11_aWant_48 : decode cX11_aWant 48 = .ok (.bipush 99, 2) := by decide +kernel
theorem dX11_aWant_50 : decode cX11_aWant 50 = .ok (.invokevirtual 274, 3) := by decide +kernel
theorem dX11_aWant_53 : decode cX11_aWant 53 = .ok (.ifCond .eq 7, 3) := by decide +kernel
theorem dX11_aWant_56 : decode cX11_aWant 56 = .ok (.iconst 1, 1) := by decide +kernel
theorem dX11_aWant_57 : decode cX11_aWant 57 = .ok (.goto 4, 3) := by decide +kernel
theorem dX11_aWant_60 : decode cX11_aWant 60 = .ok (.iconst 0, 1) := by decide +kernel
theorem dX11_aWant_61 : decode cX11_aWant 61 = .ok (.ireturn, 1) := by decide +kernel
theorem dX11_aRow_0 : decode cX11_aRow 0 = .ok (.aload_n 0, 1) := by decide +kernel
theorem dX11_aRow_1 : decode cX11_aRow 1 = .ok (.getfield 183, 3) := by decide +kernel
theorem dX11_aRow_4 : decode cX11_aRow 4 = .ok (.iconst 1, 1) := by decide +kernel
theorem dX11_aRow_5 : decode cX11_aRow 5 = .ok (.if_icmp .ne 13, 3) := by decide +kernel
theorem dX11_aRow_8 : decode cX11_aRow 8 = .ok (.aload_n 0, 1) := by decide +kernel
theorem dX11_aRow_9 : decode cX11_aRow 9 = .ok (.invokevirtual 284, 3) := by decide +kernel
theorem dX11_aRow_12 : decode cX11_aRow 12 = .ok (.ifCond .eq 45, 3) := by decide +kernel
theorem dX11_aRow_15 : decode cX11_aRow 15 = .ok (.goto 28, 3) := by decide +kernel
theorem dX11_aRow_18 : decode cX11_aRow 18 = .ok (.aload_n 0, 1) := by decide +kernel
theorem dX11_aRow_19 : decode cX11_aRow 19 = .ok (.getfield 183, 3) := by decide +kernel
theorem dX11_aRow_22 : decode cX11_aRow 22 = .ok (.iconst 2, 1) := by decide +kernel
theorem dX11_aRow_23 : decode cX11_aRow 23 = .ok (.if_icmp .ne 13, 3) := by decide +kernel
theorem dX11_aRow_26 : decode cX11_aRow 26 = .ok (.aload_n 0, 1) := by decide +kernel
theorem dX11_aRow_27 : decode cX11_aRow 27 = .ok (.invokevirtual 287, 3) := by decide +kernel
theorem dX11_aRow_30 : decode cX11_aRow 30 = .ok (.ifCond .eq 27, 3) := by decide +kernel
theorem dX11_aRow_33 : decode cX11_aRow 33 = .ok (.goto 10, 3) := by decide +kernel
theorem dX11_aRow_36 : decode cX11_aRow 36 = .ok (.aload_n 0, 1) := by decide +kernel
theorem dX11_aRow_37 : decode cX11_aRow 37 = .ok (.invokevirtual 290, 3) := by decide +kernel
theorem dX11_aRow_40 : decode cX11_aRow 40 = .ok (.ifCond .eq 17, 3) := by decide +kernel
theorem dX11_aRow_43 : decode cX11_aRow 43 = .ok (.aload_n 0, 1) := by decide +kernel
theorem dX11_aRow_44 : decode cX11_aRow 44 = .ok (.sipush 159, 3) := by decide +kernel
theorem dX11_aRow_47 : decode cX11_aRow 47 = .ok (.invokevirtual 256, 3) := by decide +kernel
theorem dX11_aRow_50 : decode cX11_aRow 50 = .ok (.ifCond .eq 7, 3) := by decide +kernel
theorem dX11_aRow_53 : decode cX11_aRow 53 = .ok (.iconst 1, 1) := by decide +kernel
theorem dX11_aRow_54 : decode cX11_aRow 54 = .ok (.goto 4, 3) := by decide +kernel
theorem dX11_aRow_57 : decode cX11_aRow 57 = .ok (.iconst 0, 1) := by decide +kernel
theorem dX11_aRow_58 : decode cX11_aRow 58 = .ok (.ireturn, 1) := by decide +kernel
theorem dX11_readsRows_0 : decode cX11_readsRows 0 = .ok (.aload_n 0, 1) := by decide +kernel
theorem dX11_readsRows_1 : decode cX11_readsRows 1 = .ok (.iconst 0, 1) := by decide +kernel
theorem dX11_readsRows_2 : decode cX11_readsRows 2 = .ok (.putfield 271, 3) := by decide +kernel
theorem dX11_readsRows_5 : decode cX11_readsRows 5 = .ok (.aload_n 0, 1) := by decide +kernel
theorem dX11_readsRows_6 : decode cX11_readsRows 6 = .ok (.getfield 183, 3) := by decide +kernel
theorem dX11_readsRows_9 : decode cX11_readsRows 9 = .ok (.iconst 1, 1) := by decide +kernel
theorem dX11_readsRows_10 : decode cX11_readsRows 10 = .ok (.if_icmp .ne 8, 3) := by decide +kernel
theorem dX11_readsRows_13 : decode cX11_readsRows 13 = .ok (.bipush 7, 2) := by decide +kernel
theorem dX11_readsRows_15 : decode cX11_readsRows 15 = .ok (.goto 18, 3) := by decide +kernel
theorem dX11_readsRows_18 : decode cX11_readsRows 18 = .ok (.aload_n 0, 1) := by decide +kernel
theorem dX11_readsRows_19 : decode cX11_readsRows 19 = .ok (.getfield 183, 3) := by decide +kernel
theorem dX11_readsRows_22 : decode cX11_readsRows 22 = .ok (.iconst 2, 1) := by decide +kernel
theorem dX11_readsRows_23 : decode cX11_readsRows 23 = .ok (.if_icmp .ne 8, 3) := by decide +kernel
theorem dX11_readsRows_26 : decode cX11_readsRows 26 = .ok (.bipush 9, 2) := by decide +kernel
theorem dX11_readsRows_28 : decode cX11_readsRows 28 = .ok (.goto 5, 3) := by decide +kernel
theorem dX11_readsRows_31 : decode cX11_readsRows 31 = .ok (.bipush 11, 2) := by decide +kernel
theorem dX11_readsRows_33 : decode cX11_readsRows 33 = .ok (.istore_n 1, 1) := by decide +kernel
theorem dX11_readsRows_34 : decode cX11_readsRows 34 = .ok (.iconst 1, 1) := by decide +kernel
theorem dX11_readsRows_35 : decode cX11_readsRows 35 = .ok (.istore_n 2, 1) := by decide +kernel
theorem dX11_readsRows_36 : decode cX11_readsRows 36 = .ok (.iload_n 2, 1) := by decide +kernel
theorem dX11_readsRows_37 : decode cX11_readsRows 37 = .ok (.ifCond .eq 78, 3) := by decide +kernel
theorem dX11_readsRows_40 : decode cX11_readsRows 40 = .ok (.aload_n 0, 1) := by decide +kernel
theorem dX11_readsRows_41 : decode cX11_readsRows 41 = .ok (.getfield 201, 3) := by decide +kernel
theorem dX11_readsRows_44 : decode cX11_readsRows 44 = .ok (.ifCond .eq 71, 3) := by decide +kernel
theorem dX11_readsRows_47 : decode cX11_readsRows 47 = .ok (.aload_n 0, 1) := by decide +kernel
theorem dX11_readsRows_48 : decode cX11_readsRows 48 = .ok (.getfield 201, 3) := by decide +kernel
theorem dX11_readsRows_51 : decode cX11_readsRows 51 = .ok (.iload_n 1, 1) := by decide +kernel
theorem dX11_readsRows_52 : decode cX11_readsRows 52 = .ok (.if_icmp .eq 9, 3) := by decide +kernel
theorem dX11_readsRows_55 : decode cX11_readsRows 55 = .ok (.aload_n 0, 1) := by decide +kernel
theorem dX11_readsRows_56 : decode cX11_readsRows 56 = .ok (.iconst 1, 1) := by decide +kernel
theorem dX11_readsRows_57 : decode cX11_readsRows 57 = .ok (.invokevirtual 222, 3) := by decide +kernel
theorem dX11_readsRows_60 : decode cX11_readsRows 60 = .ok (.ireturn, 1) := by decide +kernel
theorem dX11_readsRows_61 : decode cX11_readsRows 61 = .ok (.aload_n 0, 1) := by decide +kernel
theorem dX11_readsRows_62 : decode cX11_readsRows 62 = .ok (.getfield 271, 3) := by decide +kernel
theorem dX11_readsRows_65 : decode cX11_readsRows 65 = .ok (.aload_n 0, 1) := by decide +kernel
theorem dX11_readsRows_66 : decode cX11_readsRows 66 = .ok (.getfield 183, 3) := by decide +kernel
theorem dX11_readsRows_69 : decode cX11_readsRows 69 = .ok (.iconst 1, 1) := by decide +kernel
theorem dX11_readsRows_70 : decode cX11_readsRows 70 = .ok (.if_icmp .ne 8, 3) := by decide +kernel
theorem dX11_readsRows_73 : decode cX11_readsRows 73 = .ok (.bipush 16, 2) := by decide +kernel
theorem dX11_readsRows_75 : decode cX11_readsRows 75 = .ok (.goto 5, 3) := by decide +kernel
theorem dX11_readsRows_78 : decode cX11_readsRows 78 = .ok (.bipush 12, 2) := by decide +kernel
theorem dX11_readsRows_80 : decode cX11_readsRows 80 = .ok (.if_icmp .ne 9, 3) := by decide +kernel
theorem dX11_readsRows_83 : decode cX11_readsRows 83 = .ok (.aload_n 0, 1) := by decide +kernel
theorem dX11_readsRows_84 : decode cX11_readsRows 84 = .ok (.iconst 3, 1) := by decide +kernel
theorem dX11_readsRows_85 : decode cX11_readsRows 85 = .ok (.invokevirtual 222, 3) := by decide +kernel
theorem dX11_readsRows_88 : decode cX11_readsRows 88 = .ok (.ireturn, 1) := by decide +kernel
theorem dX11_readsRows_89 : decode cX11_readsRows 89 = .ok (.aload_n 0, 1) := by decide +kernel
theorem dX11_readsRows_90 : decode cX11_readsRows 90 = .ok (.invokevirtual 293, 3) := by decide +kernel
theorem dX11_readsRows_93 : decode cX11_readsRows 93 = .ok (.istore_n 2, 1) := by decide +kernel
theorem dX11_readsRows_94 : decode cX11_readsRows 94 = .ok (.aload_n 0, 1) := by decide +kernel
theorem dX11_readsRows_95 : decode cX11_readsRows 95 = .ok (.dup, 1) := by decide +kernel
theorem dX11_readsRows_96 : decode cX11_readsRows 96 = .ok (.getfield 271, 3) := by decide +kernel
theorem dX11_readsRows_99 : decode cX11_readsRows 99 = .ok (.iload_n 2, 1) := by decide +kernel
theorem dX11_readsRows_100 : decode cX11_readsRows 100 = .ok (.ifCond .eq 7, 3) := by decide +kernel
theorem dX11_readsRows_103 : decode cX11_readsRows 103 = .ok (.iconst 1, 1) := by decide +kernel
theorem dX11_readsRows_104 : decode cX11_readsRows 104 = .ok (.goto 4, 3) := by decide +kernel
theorem dX11_readsRows_107 : decode cX11_readsRows 107 = .ok (.iconst 0, 1) := by decide +kernel
theorem dX11_readsRows_108 : decode cX11_readsRows 108 = .ok (.iadd, 1) := by decide +kernel
theorem dX11_readsRows_109 : decode cX11_readsRows 109 = .ok (.putfield 271, 3) := by decide +kernel
theorem dX11_readsRows_112 : decode cX11_readsRows 112 = .ok (.goto (-76), 3) := by decide +kernel
theorem dX11_readsRows_115 : decode cX11_readsRows 115 = .ok (.iload_n 2, 1) := by decide +kernel
theorem dX11_readsRows_116 : decode cX11_readsRows 116 = .ok (.ireturn, 1) := by decide +kernel
theorem dX11_putsLaw_0 : decode cX11_putsLaw 0 = .ok (.aload_n 0, 1) := by decide +kernel
theorem dX11_putsLaw_1 : decode cX11_putsLaw 1 = .ok (.getfield 7, 3) := by decide +kernel
theorem dX11_putsLaw_4 : decode cX11_putsLaw 4 = .ok (.bipush 86, 2) := by decide +kernel
theorem dX11_putsLaw_6 : decode cX11_putsLaw 6 = .ok (.aload_n 0, 1) := by decide +kernel
theorem dX11_putsLaw_7 : decode cX11_putsLaw 7 = .ok (.getfield 262, 3) := by decide +kernel
theorem dX11_putsLaw_10 : decode cX11_putsLaw 10 = .ok (.iastore, 1) := by decide +kernel
theorem dX11_putsLaw_11 : decode cX11_putsLaw 11 = .ok (.iconst 0, 1) := by decide +kernel
theorem dX11_putsLaw_12 : decode cX11_putsLaw 12 = .ok (.istore_n 1, 1) := by decide +kernel
theorem dX11_putsLaw_13 : decode cX11_putsLaw 13 = .ok (.iload_n 1, 1) := by decide +kernel
theorem dX11_putsLaw_14 : decode cX11_putsLaw 14 = .ok (.aload_n 0, 1) := by decide +kernel
theorem dX11_putsLaw_15 : decode cX11_putsLaw 15 = .ok (.getfield 262, 3) := by decide +kernel
theorem dX11_putsLaw_18 : decode cX11_putsLaw 18 = .ok (.if_icmp .ge 87, 3) := by decide +kernel
theorem dX11_putsLaw_21 : decode cX11_putsLaw 21 = .ok (.aload_n 0, 1) := by decide +kernel
theorem dX11_putsLaw_22 : decode cX11_putsLaw 22 = .ok (.getfield 7, 3) := by decide +kernel
theorem dX11_putsLaw_25 : decode cX11_putsLaw 25 = .ok (.sipush 911, 3) := by decide +kernel
theorem dX11_putsLaw_28 : decode cX11_putsLaw 28 = .ok (.iload_n 1, 1) := by decide +kernel
theorem dX11_putsLaw_29 : decode cX11_putsLaw 29 = .ok (.iadd, 1) := by decide +kernel
theorem dX11_putsLaw_30 : decode cX11_putsLaw 30 = .ok (.aload_n 0, 1) := by decide +kernel
theorem dX11_putsLaw_31 : decode cX11_putsLaw 31 = .ok (.getfield 22, 3) := by decide +kernel
theorem dX11_putsLaw_34 : decode cX11_putsLaw 34 = .ok (.iconst 4, 1) := by decide +kernel
theorem dX11_putsLaw_35 : decode cX11_putsLaw 35 = .ok (.iload_n 1, 1) := by decide +kernel
theorem dX11_putsLaw_36 : decode cX11_putsLaw 36 = .ok (.imul, 1) := by decide +kernel
theorem dX11_putsLaw_37 : decode cX11_putsLaw 37 = .ok (.iaload, 1) := by decide +kernel
theorem dX11_putsLaw_38 : decode cX11_putsLaw 38 = .ok (.iastore, 1) := by decide +kernel
theorem dX11_putsLaw_39 : decode cX11_putsLaw 39 = .ok (.aload_n 0, 1) := by decide +kernel
theorem dX11_putsLaw_40 : decode cX11_putsLaw 40 = .ok (.getfield 7, 3) := by decide +kernel
theorem dX11_putsLaw_43 : decode cX11_putsLaw 43 = .ok (.sipush 927, 3) := by decide +kernel
theorem dX11_putsLaw_46 : decode cX11_putsLaw 46 = .ok (.iload_n 1, 1) := by decide +kernel
theorem dX11_putsLaw_47 : decode cX11_putsLaw 47 = .ok (.iadd, 1) := by decide +kernel
theorem dX11_putsLaw_48 : decode cX11_putsLaw 48 = .ok (.aload_n 0, 1) := by decide +kernel
theorem dX11_putsLaw_49 : decode cX11_putsLaw 49 = .ok (.getfield 22, 3) := by decide +kernel
theorem dX11_putsLaw_52 : decode cX11_putsLaw 52 = .ok (.iconst 4, 1) := by decide +kernel
theorem dX11_putsLaw_53 : decode cX11_putsLaw 53 = .ok (.iload_n 1, 1) := by decide +kernel
theorem dX11_putsLaw_54 : decode cX11_putsLaw 54 = .ok (.imul, 1) := by decide +kernel
theorem dX11_putsLaw_55 : decode cX11_putsLaw 55 = .ok (.iconst 1, 1) := by decide +kernel
theorem dX11_putsLaw_56 : decode cX11_putsLaw 56 = .ok (.iadd, 1) := by decide +kernel
theorem dX11_putsLaw_57 : decode cX11_putsLaw 57 = .ok (.iaload, 1) := by decide +kernel
theorem dX11_putsLaw_58 : decode cX11_putsLaw 58 = .ok (.iastore, 1) := by decide +kernel
theorem dX11_putsLaw_59 : decode cX11_putsLaw 59 = .ok (.aload_n 0, 1) := by decide +kernel
theorem dX11_putsLaw_60 : decode cX11_putsLaw 60 = .ok (.getfield 7, 3) := by decide +kernel
theorem dX11_putsLaw_63 : decode cX11_putsLaw 63 = .ok (.sipush 943, 3) := by decide +kernel
theorem dX11_putsLaw_66 : decode cX11_putsLaw 66 = .ok (.iload_n 1, 1) := by decide +kernel
theorem dX11_putsLaw_67 : decode cX11_putsLaw 67 = .ok (.iadd, 1) := by decide +kernel
theorem dX11_putsLaw_68 : decode cX11_putsLaw 68 = .ok (.aload_n 0, 1) := by decide +kernel
theorem dX11_putsLaw_69 : decode cX11_putsLaw 69 = .ok (.getfield 22, 3) := by decide +kernel
theorem dX11_putsLaw_72 : decode cX11_putsLaw 72 = .ok (.iconst 4, 1) := by decide +kernel
theorem dX11_putsLaw_73 : decode cX11_putsLaw 73 = .ok (.iload_n 1, 1) := by decide +kernel
theorem dX11_putsLaw_74 : decode cX11_putsLaw 74 = .ok (.imul, 1) := by decide +kernel
theorem dX11_putsLaw_75 : decode cX11_putsLaw 75 = .ok (.iconst 2, 1) := by decide +kernel
theorem dX11_putsLaw_76 : decode cX11_putsLaw 76 = .ok (.iadd, 1) := by decide +kernel
theorem dX11_putsLaw_77 : decode cX11_putsLaw 77 = .ok (.iaload, 1) := by decide +kernel
theorem dX11_putsLaw_78 : decode cX11_putsLaw 78 = .ok (.iastore, 1) := by decide +kernel
theorem dX11_putsLaw_79 : decode cX11_putsLaw 79 = .ok (.aload_n 0, 1) := by decide +kernel
theorem dX11_putsLaw_80 : decode cX11_putsLaw 80 = .ok (.getfield 7, 3) := by decide +kernel
theorem dX11_putsLaw_83 : decode cX11_putsLaw 83 = .ok (.sipush 959, 3) := by decide +kernel
theorem dX11_putsLaw_86 : decode cX11_putsLaw 86 = .ok (.iload_n 1, 1) := by decide +kernel
theorem dX11_putsLaw_87 : decode cX11_putsLaw 87 = .ok (.iadd, 1) := by decide +kernel
theorem dX11_putsLaw_88 : decode cX11_putsLaw 88 = .ok (.aload_n 0, 1) := by decide +kernel
theorem dX11_putsLaw_89 : decode cX11_putsLaw 89 = .ok (.getfield 22, 3) := by decide +kernel
theorem dX11_putsLaw_92 : decode cX11_putsLaw 92 = .ok (.iconst 4, 1) := by decide +kernel
theorem dX11_putsLaw_93 : decode cX11_putsLaw 93 = .ok (.iload_n 1, 1) := by decide +kernel
theorem dX11_putsLaw_94 : decode cX11_putsLaw 94 = .ok (.imul, 1) := by decide +kernel
theorem dX11_putsLaw_95 : decode cX11_putsLaw 95 = .ok (.iconst 3, 1) := by decide +kernel
theorem dX11_putsLaw_96 : decode cX11_putsLaw 96 = .ok (.iadd, 1) := by decide +kernel
theorem dX11_putsLaw_97 : decode cX11_putsLaw 97 = .ok (.iaload, 1) := by decide +kernel
theorem dX11_putsLaw_98 : decode cX11_putsLaw 98 = .ok (.iastore, 1) := by decide +kernel
theorem dX11_putsLaw_99 : decode cX11_putsLaw 99 = .ok (.iinc 1 1, 3) := by decide +kernel
theorem dX11_putsLaw_102 : decode cX11_putsLaw 102 = .ok (.goto (-89), 3) := by decide +kernel
theorem dX11_putsLaw_105 : decode cX11_putsLaw 105 = .ok (.iconst 0, 1) := by decide +kernel
theorem dX11_putsLaw_106 : decode cX11_putsLaw 106 = .ok (.istore_n 1, 1) := by decide +kernel
theorem dX11_putsLaw_107 : decode cX11_putsLaw 107 = .ok (.iload_n 1, 1) := by decide +kernel
theorem dX11_putsLaw_108 : decode cX11_putsLaw 108 = .ok (.iconst 2, 1) := by decide +kernel
theorem dX11_putsLaw_109 : decode cX11_putsLaw 109 = .ok (.aload_n 0, 1) := by decide +kernel
theorem dX11_putsLaw_110 : decode cX11_putsLaw 110 = .ok (.getfield 228, 3) := by decide +kernel
theorem dX11_putsLaw_113 : decode cX11_putsLaw 113 = .ok (.imul, 1) := by decide +kernel
theorem dX11_putsLaw_114 : decode cX11_putsLaw 114 = .ok (.if_icmp .ge 25, 3) := by decide +kernel
theorem dX11_putsLaw_117 : decode cX11_putsLaw 117 = .ok (.aload_n 0, 1) := by decide +kernel
theorem dX11_putsLaw_118 : decode cX11_putsLaw 118 = .ok (.getfield 7, 3) := by decide +kernel
theorem dX11_putsLaw_121 : decode cX11_putsLaw 121 = .ok (.sipush 976, 3) := by decide +kernel
theorem dX11_putsLaw_124 : decode cX11_putsLaw 124 = .ok (.iload_n 1, 1) := by decide +kernel
theorem dX11_putsLaw_125 : decode cX11_putsLaw 125 = .ok (.iadd, 1) := by decide +kernel
theorem dX11_putsLaw_126 : decode cX11_putsLaw 126 = .ok (.aload_n 0, 1) := by decide +kernel
theorem dX11_putsLaw_127 : decode cX11_putsLaw 127 = .ok (.getfield 25, 3) := by decide +kernel
theorem dX11_putsLaw_130 : decode cX11_putsLaw 130 = .ok (.iload_n 1, 1) := by decide +kernel
theorem dX11_putsLaw_131 : decode cX11_putsLaw 131 = .ok (.iaload, 1) := by decide +kernel
theorem dX11_putsLaw_132 : decode cX11_putsLaw 132 = .ok (.iastore, 1) := by decide +kernel
theorem dX11_putsLaw_133 : decode cX11_putsLaw 133 = .ok (.iinc 1 1, 3) := by decide +kernel
theorem dX11_putsLaw_136 : decode cX11_putsLaw 136 = .ok (.goto (-29), 3) := by decide +kernel
theorem dX11_putsLaw_139 : decode cX11_putsLaw 139 = .ok (.aload_n 0, 1) := by decide +kernel
theorem dX11_putsLaw_140 : decode cX11_putsLaw 140 = .ok (.getfield 262, 3) := by decide +kernel
theorem dX11_putsLaw_143 : decode cX11_putsLaw 143 = .ok (.ireturn, 1) := by decide +kernel
theorem dX11_puts_0 : decode cX11_puts 0 = .ok (.aload_n 0, 1) := by decide +kernel
theorem dX11_puts_1 : decode cX11_puts 1 = .ok (.getfield 7, 3) := by decide +kernel
theorem dX11_puts_4 : decode cX11_puts 4 = .ok (.iload_n 1, 1) := by decide +kernel
theorem dX11_puts_5 : decode cX11_puts 5 = .ok (.aload_n 0, 1) := by decide +kernel
theorem dX11_puts_6 : decode cX11_puts 6 = .ok (.getfield 271, 3) := by decide +kernel
theorem dX11_puts_9 : decode cX11_puts 9 = .ok (.iastore, 1) := by decide +kernel
theorem dX11_puts_10 : decode cX11_puts 10 = .ok (.iconst 0, 1) := by decide +kernel
theorem dX11_puts_11 : decode cX11_puts 11 = .ok (.istore 4, 2) := by decide +kernel
theorem dX11_puts_13 : decode cX11_puts 13 = .ok (.iload 4, 2) := by decide +kernel
theorem dX11_puts_15 : decode cX11_puts 15 = .ok (.iload_n 3, 1) := by decide +kernel
theorem dX11_puts_16 : decode cX11_puts 16 = .ok (.aload_n 0, 1) := by decide +kernel
theorem dX11_puts_17 : decode cX11_puts 17 = .ok (.getfield 271, 3) := by decide +kernel
theorem dX11_puts_20 : decode cX11_puts 20 = .ok (.imul, 1) := by decide +kernel
theorem dX11_puts_21 : decode cX11_puts 21 = .ok (.if_icmp .ge 25, 3) := by decide +kernel
theorem dX11_puts_24 : decode cX11_puts 24 = .ok (.aload_n 0, 1) := by decide +kernel
theorem dX11_puts_25 : decode cX11_puts 25 = .ok (.getfield 7, 3) := by decide +kernel
theorem dX11_puts_28 : decode cX11_puts 28 = .ok (.iload_n 2, 1) := by decide +kernel
theorem dX11_puts_29 : decode cX11_puts 29 = .ok (.iload 4, 2) := by decide +kernel
theorem dX11_puts_31 : decode cX11_puts 31 = .ok (.iadd, 1) := by decide +kernel
theorem dX11_puts_32 : decode cX11_puts 32 = .ok (.aload_n 0, 1) := by decide +kernel
theorem dX11_puts_33 : decode cX11_puts 33 = .ok (.getfield 28, 3) := by decide +kernel
theorem dX11_puts_36 : decode cX11_puts 36 = .ok (.iload 4, 2) := by decide +kernel
theorem dX11_puts_38 : decode cX11_puts 38 = .ok (.iaload, 1) := by decide +kernel
theorem dX11_puts_39 : decode cX11_puts 39 = .ok (.iastore, 1) := by decide +kernel
theorem dX11_puts_40 : decode cX11_puts 40 = .ok (.iinc 4 1, 3) := by decide +kernel
theorem dX11_puts_43 : decode cX11_puts 43 = .ok (.goto (-30), 3) := by decide +kernel
theorem dX11_puts_46 : decode cX11_puts 46 = .ok (.aload_n 0, 1) := by decide +kernel
theorem dX11_puts_47 : decode cX11_puts 47 = .ok (.getfield 271, 3) := by decide +kernel
theorem dX11_puts_50 : decode cX11_puts 50 = .ok (.ireturn, 1) := by decide +kernel
theorem dX11_putsText_0 : decode cX11_putsText 0 = .ok (.iload_n 1, 1) := by decide +kernel
theorem dX11_putsText_1 : decode cX11_putsText 1 = .ok (.ifCond .ne 8, 3) := by decide +kernel
theorem dX11_putsText_4 : decode cX11_putsText 4 = .ok (.aload_n 0, 1) := by decide +kernel
theorem dX11_putsText_5 : decode cX11_putsText 5 = .ok (.invokevirtual 296, 3) := by decide +kernel
theorem dX11_putsText_8 : decode cX11_putsText 8 = .ok (.ireturn, 1) := by decide +kernel
theorem dX11_putsText_9 : decode cX11_putsText 9 = .ok (.iload_n 1, 1) := by decide +kernel
theorem dX11_putsText_10 : decode cX11_putsText 10 = .ok (.iconst 3, 1) := by decide +kernel
theorem dX11_putsText_11 : decode cX11_putsText 11 = .ok (.if_icmp .ne 14, 3) := by decide +kernel
theorem dX11_putsText_14 : decode cX11_putsText 14 = .ok (.aload_n 0, 1) := by decide +kernel
theorem dX11_putsText_15 : decode cX11_putsText 15 = .ok (.bipush 89, 2) := by decide +kernel
theorem dX11_putsText_17 : decode cX11_putsText 17 = .ok (.sipush 239, 3) := by decide +kernel
theorem dX11_putsText_20 : decode cX11_putsText 20 = .ok (.iconst 3, 1) := by decide +kernel
theorem dX11_putsText_21 : decode cX11_putsText 21 = .ok (.invokevirtual 299, 3) := by decide +kernel
theorem dX11_putsText_24 : decode cX11_putsText 24 = .ok (.ireturn, 1) := by decide +kernel
theorem dX11_putsText_25 : decode cX11_putsText 25 = .ok (.aload_n 0, 1) := by decide +kernel
theorem dX11_putsText_26 : decode cX11_putsText 26 = .ok (.invokevirtual 104, 3) := by decide +kernel
theorem dX11_putsText_29 : decode cX11_putsText 29 = .ok (.iload_n 1, 1) := by decide +kernel
theorem dX11_putsText_30 : decode cX11_putsText 30 = .ok (.iconst 1, 1) := by decide +kernel
theorem dX11_putsText_31 : decode cX11_putsText 31 = .ok (.if_icmp .ne 16, 3) := by decide +kernel
theorem dX11_putsText_34 : decode cX11_putsText 34 = .ok (.aload_n 0, 1) := by decide +kernel
theorem dX11_putsText_35 : decode cX11_putsText 35 = .ok (.bipush 87, 2) := by decide +kernel
theorem dX11_putsText_37 : decode cX11_putsText 37 = .ok (.sipush 151, 3) := by decide +kernel
theorem dX11_putsText_40 : decode cX11_putsText 40 = .ok (.iconst 4, 1) := by decide +kernel
theorem dX11_putsText_41 : decode cX11_putsText 41 = .ok (.invokevirtual 299, 3) := by decide +kernel
theorem dX11_putsText_44 : decode cX11_putsText 44 = .ok (.goto 13, 3) := by decide +kernel
theorem dX11_putsText_47 : decode cX11_putsText 47 = .ok (.aload_n 0, 1) := by decide +kernel
theorem dX11_putsText_48 : decode cX11_putsText 48 = .ok (.bipush 88, 2) := by decide +kernel
theorem dX11_putsText_50 : decode cX11_putsText 50 = .ok (.sipush 215, 3) := by decide +kernel
theorem dX11_putsText_53 : decode cX11_putsText 53 = .ok (.iconst 2, 1) := by decide +kernel
theorem dX11_putsText_54 : decode cX11_putsText 54 = .ok (.invokevirtual 299, 3) := by decide +kernel
theorem dX11_putsText_57 : decode cX11_putsText 57 = .ok (.ireturn, 1) := by decide +kernel
theorem dX11_text_0 : decode cX11_text 0 = .ok (.aload_n 0, 1) := by decide +kernel
theorem dX11_text_1 : decode cX11_text 1 = .ok (.iconst 0, 1) := by decide +kernel
theorem dX11_text_2 : decode cX11_text 2 = .ok (.putfield 303, 3) := by decide +kernel
theorem dX11_text_5 : decode cX11_text 5 = .ok (.aload_n 0, 1) := by decide +kernel
theorem dX11_text_6 : decode cX11_text 6 = .ok (.iconst (-1), 1) := by decide +kernel
theorem dX11_text_7 : decode cX11_text 7 = .ok (.putfield 40, 3) := by decide +kernel
theorem dX11_text_10 : decode cX11_text 10 = .ok (.iload_n 1, 1) := by decide +kernel
theorem dX11_text_11 : decode cX11_text 11 = .ok (.iconst 0, 1) := by decide +kernel
theorem dX11_text_12 : decode cX11_text 12 = .ok (.iconst 3, 1) := by decide +kernel
theorem dX11_text_13 : decode cX11_text 13 = .ok (.invokestatic 89, 3) := by decide +kernel
theorem dX11_text_16 : decode cX11_text 16 = .ok (.ifCond .ne 10, 3) := by decide +kernel
theorem dX11_text_19 : decode cX11_text 19 = .ok (.aload_n 0, 1) := by decide +kernel
theorem dX11_text_20 : decode cX11_text 20 = .ok (.iconst 0, 1) := by decide +kernel
theorem dX11_text_21 : decode cX11_text 21 = .ok (.putfield 116, 3) := by decide +kernel
theorem dX11_text_24 : decode cX11_text 24 = .ok (.iconst (-1), 1) := by decide +kernel
theorem dX11_text_25 : decode cX11_text 25 = .ok (.ireturn, 1) := by decide +kernel
theorem dX11_text_26 : decode cX11_text 26 = .ok (.aload_n 0, 1) := by decide +kernel
theorem dX11_text_27 : decode cX11_text 27 = .ok (.iconst 0, 1) := by decide +kernel
theorem dX11_text_28 : decode cX11_text 28 = .ok (.putfield 216, 3) := by decide +kernel
theorem dX11_text_31 : decode cX11_text 31 = .ok (.aload_n 0, 1) := by decide +kernel
theorem dX11_text_32 : decode cX11_text 32 = .ok (.iconst 0, 1) := by decide +kernel
theorem dX11_text_33 : decode cX11_text 33 = .ok (.putfield 119, 3) := by decide +kernel
theorem dX11_text_36 : decode cX11_text 36 = .ok (.aload_n 0, 1) := by decide +kernel
theorem dX11_text_37 : decode cX11_text 37 = .ok (.iload_n 1, 1) := by decide +kernel
theorem dX11_text_38 : decode cX11_text 38 = .ok (.putfield 183, 3) := by decide +kernel
theorem dX11_text_41 : decode cX11_text 41 = .ok (.aload_n 0, 1) := by decide +kernel
theorem dX11_text_42 : decode cX11_text 42 = .ok (.invokevirtual 225, 3) := by decide +kernel
theorem dX11_text_45 : decode cX11_text 45 = .ok (.iload_n 1, 1) := by decide +kernel
theorem dX11_text_46 : decode cX11_text 46 = .ok (.ifCond .ne 10, 3) := by decide +kernel
theorem dX11_text_49 : decode cX11_text 49 = .ok (.aload_n 0, 1) := by decide +kernel
theorem dX11_text_50 : decode cX11_text 50 = .ok (.invokevirtual 306, 3) := by decide +kernel
theorem dX11_text_53 : decode cX11_text 53 = .ok (.goto 7, 3) := by decide +kernel
theorem dX11_text_56 : decode cX11_text 56 = .ok (.aload_n 0, 1) := by decide +kernel
theorem dX11_text_57 : decode cX11_text 57 = .ok (.invokevirtual 309, 3) := by decide +kernel
theorem dX11_text_60 : decode cX11_text 60 = .ok (.istore_n 2, 1) := by decide +kernel
theorem dX11_text_61 : decode cX11_text 61 = .ok (.aload_n 0, 1) := by decide +kernel
theorem dX11_text_62 : decode cX11_text 62 = .ok (.iconst 0, 1) := by decide +kernel
theorem dX11_text_63 : decode cX11_text 63 = .ok (.putfield 116, 3) := by decide +kernel
theorem dX11_text_66 : decode cX11_text 66 = .ok (.iload_n 2, 1) := by decide +kernel
theorem dX11_text_67 : decode cX11_text 67 = .ok (.ifCond .eq 9, 3) := by decide +kernel
theorem dX11_text_70 : decode cX11_text 70 = .ok (.aload_n 0, 1) := by decide +kernel
theorem dX11_text_71 : decode cX11_text 71 = .ok (.iload_n 1, 1) := by decide +kernel
theorem dX11_text_72 : decode cX11_text 72 = .ok (.invokevirtual 312, 3) := by decide +kernel
theorem dX11_text_75 : decode cX11_text 75 = .ok (.ireturn, 1) := by decide +kernel
theorem dX11_text_76 : decode cX11_text 76 = .ok (.aload_n 0, 1) := by decide +kernel
theorem dX11_text_77 : decode cX11_text 77 = .ok (.aload_n 0, 1) := by decide +kernel
theorem dX11_text_78 : decode cX11_text 78 = .ok (.getfield 216, 3) := by decide +kernel
theorem dX11_text_81 : decode cX11_text 81 = .ok (.putfield 303, 3) := by decide +kernel
theorem dX11_text_84 : decode cX11_text 84 = .ok (.aload_n 0, 1) := by decide +kernel
theorem dX11_text_85 : decode cX11_text 85 = .ok (.aload_n 0, 1) := by decide +kernel
theorem dX11_text_86 : decode cX11_text 86 = .ok (.getfield 219, 3) := by decide +kernel
theorem dX11_text_89 : decode cX11_text 89 = .ok (.putfield 40, 3) := by decide +kernel
theorem dX11_text_92 : decode cX11_text 92 = .ok (.iconst (-1), 1) := by decide +kernel
theorem dX11_text_93 : decode cX11_text 93 = .ok (.ireturn, 1) := by decide +kernel
theorem dX11_fault_0 : decode cX11_fault 0 = .ok (.iload_n 1, 1) := by decide +kernel
theorem dX11_fault_1 : decode cX11_fault 1 = .ok (.ifCond .ne 10, 3) := by decide +kernel
theorem dX11_fault_4 : decode cX11_fault 4 = .ok (.aload_n 0, 1) := by decide +kernel
theorem dX11_fault_5 : decode cX11_fault 5 = .ok (.getfield 303, 3) := by decide +kernel
theorem dX11_fault_8 : decode cX11_fault 8 = .ok (.goto 16, 3) := by decide +kernel
theorem dX11_fault_11 : decode cX11_fault 11 = .ok (.iload_n 1, 1) := by decide +kernel
theorem dX11_fault_12 : decode cX11_fault 12 = .ok (.iconst 1, 1) := by decide +kernel
theorem dX11_fault_13 : decode cX11_fault 13 = .ok (.if_icmp .ne 10, 3) := by decide +kernel
theorem dX11_fault_16 : decode cX11_fault 16 = .ok (.aload_n 0, 1) := by decide +kernel
theorem dX11_fault_17 : decode cX11_fault 17 = .ok (.getfield 40, 3) := by decide +kernel
theorem dX11_fault_20 : decode cX11_fault 20 = .ok (.goto 4, 3) := by decide +kernel
theorem dX11_fault_23 : decode cX11_fault 23 = .ok (.iconst (-1), 1) := by decide +kernel
theorem dX11_fault_24 : decode cX11_fault 24 = .ok (.ireturn, 1) := by decide +kernel
theorem dX11_both_0 : decode cX11_both 0 = .ok (.iload_n 0, 1) := by decide +kernel
theorem dX11_both_1 : decode cX11_both 1 = .ok (.tableswitch 100 23 31 #[51, 55, 59, 100, 63, 74, 85, 100, 96], 51) := by decide +kernel
theorem dX11_both_52 : decode cX11_both 52 = .ok (.iload_n 1, 1) := by decide +kernel
theorem dX11_both_53 : decode cX11_both 53 = .ok (.iload_n 2, 1) := by decide +kernel
theorem dX11_both_54 : decode cX11_both 54 = .ok (.iadd, 1) := by decide +kernel
theorem dX11_both_55 : decode cX11_both 55 = .ok (.ireturn, 1) := by decide +kernel
theorem dX11_both_56 : decode cX11_both 56 = .ok (.iload_n 1, 1) := by decide +kernel
theorem dX11_both_57 : decode cX11_both 57 = .ok (.iload_n 2, 1) := by decide +kernel
theorem dX11_both_58 : decode cX11_both 58 = .ok (.isub, 1) := by decide +kernel
theorem dX11_both_59 : decode cX11_both 59 = .ok (.ireturn, 1) := by decide +kernel
theorem dX11_both_60 : decode cX11_both 60 = .ok (.iload_n 1, 1) := by decide +kernel
theorem dX11_both_61 : decode cX11_both 61 = .ok (.iload_n 2, 1) := by decide +kernel
theorem dX11_both_62 : decode cX11_both 62 = .ok (.imul, 1) := by decide +kernel
theorem dX11_both_63 : decode cX11_both 63 = .ok (.ireturn, 1) := by decide +kernel
theorem dX11_both_64 : decode cX11_both 64 = .ok (.iload_n 1, 1) := by decide +kernel
theorem dX11_both_65 : decode cX11_both 65 = .ok (.iload_n 2, 1) := by decide +kernel
theorem dX11_both_66 : decode cX11_both 66 = .ok (.if_icmp .ge 7, 3) := by decide +kernel
theorem dX11_both_69 : decode cX11_both 69 = .ok (.iconst 1, 1) := by decide +kernel
theorem dX11_both_70 : decode cX11_both 70 = .ok (.goto 4, 3) := by decide +kernel
theorem dX11_both_73 : decode cX11_both 73 = .ok (.iconst 0, 1) := by decide +kernel
theorem dX11_both_74 : decode cX11_both 74 = .ok (.ireturn, 1) := by decide +kernel
theorem dX11_both_75 : decode cX11_both 75 = .ok (.iload_n 1, 1) := by decide +kernel
theorem dX11_both_76 : decode cX11_both 76 = .ok (.iload_n 2, 1) := by decide +kernel
theorem dX11_both_77 : decode cX11_both 77 = .ok (.if_icmp .ne 7, 3) := by decide +kernel
theorem dX11_both_80 : decode cX11_both 80 = .ok (.iconst 1, 1) := by decide +kernel
theorem dX11_both_81 : decode cX11_both 81 = .ok (.goto 4, 3) := by decide +kernel
theorem dX11_both_84 : decode cX11_both 84 = .ok (.iconst 0, 1) := by decide +kernel
theorem dX11_both_85 : decode cX11_both 85 = .ok (.ireturn, 1) := by decide +kernel
theorem dX11_both_86 : decode cX11_both 86 = .ok (.iload_n 1, 1) := by decide +kernel
theorem dX11_both_87 : decode cX11_both 87 = .ok (.iload_n 2, 1) := by decide +kernel
theorem dX11_both_88 : decode cX11_both 88 = .ok (.if_icmp .le 7, 3) := by decide +kernel
theorem dX11_both_91 : decode cX11_both 91 = .ok (.iconst 1, 1) := by decide +kernel
theorem dX11_both_92 : decode cX11_both 92 = .ok (.goto 4, 3) := by decide +kernel
theorem dX11_both_95 : decode cX11_both 95 = .ok (.iconst 0, 1) := by decide +kernel
theorem dX11_both_96 : decode cX11_both 96 = .ok (.ireturn, 1) := by decide +kernel
theorem dX11_both_97 : decode cX11_both 97 = .ok (.iload_n 1, 1) := by decide +kernel
theorem dX11_both_98 : decode cX11_both 98 = .ok (.iload_n 2, 1) := by decide +kernel
theorem dX11_both_99 : decode cX11_both 99 = .ok (.iand, 1) := by decide +kernel
theorem dX11_both_100 : decode cX11_both 100 = .ok (.ireturn, 1) := by decide +kernel
theorem dX11_both_101 : decode cX11_both 101 = .ok (.iload_n 1, 1) := by decide +kernel
theorem dX11_both_102 : decode cX11_both 102 = .ok (.iload_n 2, 1) := by decide +kernel
theorem dX11_both_103 : decode cX11_both 103 = .ok (.ior, 1) := by decide +kernel
theorem dX11_both_104 : decode cX11_both 104 = .ok (.ireturn, 1) := by decide +kernel
theorem dX11_comesTo_0 : decode cX11_comesTo 0 = .ok (.iconst 0, 1) := by decide +kernel
theorem dX11_comesTo_1 : decode cX11_comesTo 1 = .ok (.istore 4, 2) := by decide +kernel
theorem dX11_comesTo_3 : decode cX11_comesTo 3 = .ok (.iload_n 2, 1) := by decide +kernel
theorem dX11_comesTo_4 : decode cX11_comesTo 4 = .ok (.istore 5, 2) := by decide +kernel
theorem dX11_comesTo_6 : decode cX11_comesTo 6 = .ok (.iload 5, 2) := by decide +kernel
theorem dX11_comesTo_8 : decode cX11_comesTo 8 = .ok (.iload_n 3, 1) := by decide +kernel
theorem dX11_comesTo_9 : decode cX11_comesTo 9 = .ok (.if_icmp .ge 177, 3) := by decide +kernel
theorem dX11_comesTo_12 : decode cX11_comesTo 12 = .ok (.aload_n 0, 1) := by decide +kernel
theorem dX11_comesTo_13 : decode cX11_comesTo 13 = .ok (.getfield 7, 3) := by decide +kernel
theorem dX11_comesTo_16 : decode cX11_comesTo 16 = .ok (.sipush 976, 3) := by decide +kernel
theorem dX11_comesTo_19 : decode cX11_comesTo 19 = .ok (.sipush 820, 3) := by decide +kernel
theorem dX11_comesTo_22 : decode cX11_comesTo 22 = .ok (.iload_n 1, 1) := by decide +kernel
theorem dX11_comesTo_23 : decode cX11_comesTo 23 = .ok (.imul, 1) := by decide +kernel
theorem dX11_comesTo_24 : decode cX11_comesTo 24 = .ok (.iadd, 1) := by decide +kernel
theorem dX11_comesTo_25 : decode cX11_comesTo 25 = .ok (.iconst 2, 1) := by decide +kernel
theorem dX11_comesTo_26 : decode cX11_comesTo 26 = .ok (.iload 5, 2) := by decide +kernel
theorem dX11_comesTo_28 : decode cX11_comesTo 28 = .ok (.imul, 1) := by decide +kernel
theorem dX11_comesTo_29 : decode cX11_comesTo 29 = .ok (.iadd, 1) := by decide +kernel
theorem dX11_comesTo_30 : decode cX11_comesTo 30 = .ok (.iaload, 1) := by decide +kernel
theorem dX11_comesTo_31 : decode cX11_comesTo 31 = .ok (.istore 6, 2) := by decide +kernel
theorem dX11_comesTo_33 : decode cX11_comesTo 33 = .ok (.aload_n 0, 1) := by decide +kernel
theorem dX11_comesTo_34 : decode cX11_comesTo 34 = .ok (.getfield 7, 3) := by decide +kernel
theorem dX11_comesTo_37 : decode cX11_comesTo 37 = .ok (.sipush 976, 3) := by decide +kernel
theorem dX11_comesTo_40 : decode cX11_comesTo 40 = .ok (.sipush 820, 3) := by decide +kernel
theorem dX11_comesTo_43 : decode cX11_comesTo 43 = .ok (.iload_n 1, 1) := by decide +kernel
theorem dX11_comesTo_44 : decode cX11_comesTo 44 = .ok (.imul, 1) := by decide +kernel
theorem dX11_comesTo_45 : decode cX11_comesTo 45 = .ok (.iadd, 1) := by decide +kernel
theorem dX11_comesTo_46 : decode cX11_comesTo 46 = .ok (.iconst 2, 1) := by decide +kernel
theorem dX11_comesTo_47 : decode cX11_comesTo 47 = .ok (.iload 5, 2) := by decide +kernel
theorem dX11_comesTo_49 : decode cX11_comesTo 49 = .ok (.imul, 1) := by decide +kernel
theorem dX11_comesTo_50 : decode cX11_comesTo 50 = .ok (.iadd, 1) := by decide +kernel
theorem dX11_comesTo_51 : decode cX11_comesTo 51 = .ok (.iconst 1, 1) := by decide +kernel
theorem dX11_comesTo_52 : decode cX11_comesTo 52 = .ok (.iadd, 1) := by decide +kernel
theorem dX11_comesTo_53 : decode cX11_comesTo 53 = .ok (.iaload, 1) := by decide +kernel
theorem dX11_comesTo_54 : decode cX11_comesTo 54 = .ok (.istore 7, 2) := by decide +kernel
theorem dX11_comesTo_56 : decode cX11_comesTo 56 = .ok (.iload 6, 2) := by decide +kernel
theorem dX11_comesTo_58 : decode cX11_comesTo 58 = .ok (.bipush 23, 2) := by decide +kernel
theorem dX11_comesTo_60 : decode cX11_comesTo 60 = .ok (.if_icmp .ge 33, 3) := by decide +kernel
theorem dX11_comesTo_63 : decode cX11_comesTo 63 = .ok (.aload_n 0, 1) := by decide +kernel
theorem dX11_comesTo_64 : decode cX11_comesTo 64 = .ok (.getfield 34, 3) := by decide +kernel
theorem dX11_comesTo_67 : decode cX11_comesTo 67 = .ok (.iload 4, 2) := by decide +kernel
theorem dX11_comesTo_69 : decode cX11_comesTo 69 = .ok (.iload 6, 2) := by decide +kernel
theorem dX11_comesTo_71 : decode cX11_comesTo 71 = .ok (.ifCond .ne 8, 3) := by decide +kernel
theorem dX11_comesTo_74 : decode cX11_comesTo 74 = .ok (.iload 7, 2) := by decide +kernel
theorem dX11_comesTo_76 : decode cX11_comesTo 76 = .ok (.goto 10, 3) := by decide +kernel
theorem dX11_comesTo_79 : decode cX11_comesTo 79 = .ok (.aload_n 0, 1) := by decide +kernel
theorem dX11_comesTo_80 : decode cX11_comesTo 80 = .ok (.getfield 37, 3) := by decide +kernel
theorem dX11_comesTo_83 : decode cX11_comesTo 83 = .ok (.iload 6, 2) := by decide +kernel
theorem dX11_comesTo_85 : decode cX11_comesTo 85 = .ok (.iaload, 1) := by decide +kernel
theorem dX11_comesTo_86 : decode cX11_comesTo 86 = .ok (.iastore, 1) := by decide +kernel
theorem dX11_comesTo_87 : decode cX11_comesTo 87 = .ok (.iinc 4 1, 3) := by decide +kernel
theorem dX11_comesTo_90 : decode cX11_comesTo 90 = .ok (.goto 90, 3) := by decide +kernel
theorem dX11_comesTo_93 : decode cX11_comesTo 93 = .ok (.iload 6, 2) := by decide +kernel
theorem dX11_comesTo_95 : decode cX11_comesTo 95 = .ok (.bipush 26, 2) := by decide +kernel
theorem dX11_comesTo_97 : decode cX11_comesTo 97 = .ok (.if_icmp .ne 20, 3) := by decide +kernel
theorem dX11_comesTo_100 : decode cX11_comesTo 100 = .ok (.aload_n 0, 1) := by decide +kernel
theorem dX11_comesTo_101 : decode cX11_comesTo 101 = .ok (.getfield 34, 3) := by decide +kernel
theorem dX11_comesTo_104 : decode cX11_comesTo 104 = .ok (.iload 4, 2) := by decide +kernel
theorem dX11_comesTo_106 : decode cX11_comesTo 106 = .ok (.iconst 1, 1) := by decide +kernel
theorem dX11_comesTo_107 : decode cX11_comesTo 107 = .ok (.isub, 1) := by decide +kernel
theorem dX11_comesTo_108 : decode cX11_comesTo 108 = .ok (.dup2, 1) := by decide +kernel
theorem dX11_comesTo_109 : decode cX11_comesTo 109 = .ok (.iaload, 1) := by decide +kernel
theorem dX11_comesTo_110 : decode cX11_comesTo 110 = .ok (.iload 7, 2) := by decide +kernel
theorem dX11_comesTo_112 : decode cX11_comesTo 112 = .ok (.idiv, 1) := by decide +kernel
theorem dX11_comesTo_113 : decode cX11_comesTo 113 = .ok (.iastore, 1) := by decide +kernel
theorem dX11_comesTo_114 : decode cX11_comesTo 114 = .ok (.goto 66, 3) := by decide +kernel
theorem dX11_comesTo_117 : decode cX11_comesTo 117 = .ok (.iload 6, 2) := by decide +kernel
theorem dX11_comesTo_119 : decode cX11_comesTo 119 = .ok (.bipush 30, 2) := by decide +kernel
theorem dX11_comesTo_121 : decode cX11_comesTo 121 = .ok (.if_icmp .ne 26, 3) := by decide +kernel
theorem dX11_comesTo_124 : decode cX11_comesTo 124 = .ok (.aload_n 0, 1) := by decide +kernel
theorem dX11_comesTo_125 : decode cX11_comesTo 125 = .ok (.getfield 34, 3) := by decide +kernel
theorem dX11_comesTo_128 : decode cX11_comesTo 128 = .ok (.iload 4, 2) := by decide +kernel
theorem dX11_comesTo_130 : decode cX11_comesTo 130 = .ok (.iconst 1, 1) := by decide +kernel
theorem dX11_comesTo_131 : decode cX11_comesTo 131 = .ok (.isub, 1) := by decide +kernel
theorem dX11_comesTo_132 : decode cX11_comesTo 132 = .ok (.iconst 1, 1) := by decide +kernel
theorem dX11_comesTo_133 : decode cX11_comesTo 133 = .ok (.aload_n 0, 1) := by decide +kernel
theorem dX11_comesTo_134 : decode cX11_comesTo 134 = .ok (.getfield 34, 3) := by decide +kernel
theorem dX11_comesTo_137 : decode cX11_comesTo 137 = .ok (.iload 4, 2) := by decide +kernel
theorem dX11_comesTo_139 : decode cX11_comesTo 139 = .ok (.iconst 1, 1) := by decide +kernel
theorem dX11_comesTo_140 : decode cX11_comesTo 140 = .ok (.isub, 1) := by decide +kernel
theorem dX11_comesTo_141 : decode cX11_comesTo 141 = .ok (.iaload, 1) := by decide +kernel
theorem dX11_comesTo_142 : decode cX11_comesTo 142 = .ok (.isub, 1) := by decide +kernel
theorem dX11_comesTo_143 : decode cX11_comesTo 143 = .ok (.iastore, 1) := by decide +kernel
theorem dX11_comesTo_144 : decode cX11_comesTo 144 = .ok (.goto 36, 3) := by decide +kernel
theorem dX11_comesTo_147 : decode cX11_comesTo 147 = .ok (.iinc 4 (-1), 3) := by decide +kernel
theorem dX11_comesTo_150 : decode cX11_comesTo 150 = .ok (.aload_n 0, 1) := by decide +kernel
theorem dX11_comesTo_151 : decode cX11_comesTo 151 = .ok (.getfield 34, 3) := by decide +kernel
theorem dX11_comesTo_154 : decode cX11_comesTo 154 = .ok (.iload 4, 2) := by decide +kernel
theorem dX11_comesTo_156 : decode cX11_comesTo 156 = .ok (.iconst 1, 1) := by decide +kernel
theorem dX11_comesTo_157 : decode cX11_comesTo 157 = .ok (.isub, 1) := by decide +kernel
theorem dX11_comesTo_158 : decode cX11_comesTo 158 = .ok (.iload 6, 2) := by decide +kernel
theorem dX11_comesTo_160 : decode cX11_comesTo 160 = .ok (.aload_n 0, 1) := by decide +kernel
theorem dX11_comesTo_161 : decode cX11_comesTo 161 = .ok (.getfield 34, 3) := by decide +kernel
theorem dX11_comesTo_164 : decode cX11_comesTo 164 = .ok (.iload 4, 2) := by decide +kernel
theorem dX11_comesTo_166 : decode cX11_comesTo 166 = .ok (.iconst 1, 1) := by decide +kernel
theorem dX11_comesTo_167 : decode cX11_comesTo 167 = .ok (.isub, 1) := by decide +kernel
theorem dX11_comesTo_168 : decode cX11_comesTo 168 = .ok (.iaload, 1) := by decide +kernel
theorem dX11_comesTo_169 : decode cX11_comesTo 169 = .ok (.aload_n 0, 1) := by decide +kernel
theorem dX11_comesTo_170 : decode cX11_comesTo 170 = .ok (.getfield 34, 3) := by decide +kernel
theorem dX11_comesTo_173 : decode cX11_comesTo 173 = .ok (.iload 4, 2) := by decide +kernel
theorem dX11_comesTo_175 : decode cX11_comesTo 175 = .ok (.iaload, 1) := by decide +kernel
theorem dX11_comesTo_176 : decode cX11_comesTo 176 = .ok (.invokestatic 315, 3) := by decide +kernel
theorem dX11_comesTo_179 : decode cX11_comesTo 179 = .ok (.iastore, 1) := by decide +kernel
theorem dX11_comesTo_180 : decode cX11_comesTo 180 = .ok (.iinc 5 1, 3) := by decide +kernel
theorem dX11_comesTo_183 : decode cX11_comesTo 183 = .ok (.goto (-177), 3) := by decide +kernel
theorem dX11_comesTo_186 : decode cX11_comesTo 186 = .ok (.aload_n 0, 1) := by decide +kernel
theorem dX11_comesTo_187 : decode cX11_comesTo 187 = .ok (.getfield 34, 3) := by decide +kernel
theorem dX11_comesTo_190 : decode cX11_comesTo 190 = .ok (.iconst 0, 1) := by decide +kernel
theorem dX11_comesTo_191 : decode cX11_comesTo 191 = .ok (.iaload, 1) := by decide +kernel
theorem dX11_comesTo_192 : decode cX11_comesTo 192 = .ok (.ireturn, 1) := by decide +kernel
theorem dX11_isSo_0 : decode cX11_isSo 0 = .ok (.aload_n 0, 1) := by decide +kernel
theorem dX11_isSo_1 : decode cX11_isSo 1 = .ok (.getfield 7, 3) := by decide +kernel
theorem dX11_isSo_4 : decode cX11_isSo 4 = .ok (.sipush 943, 3) := by decide +kernel
theorem dX11_isSo_7 : decode cX11_isSo 7 = .ok (.iload_n 1, 1) := by decide +kernel
theorem dX11_isSo_8 : decode cX11_isSo 8 = .ok (.iadd, 1) := by decide +kernel
theorem dX11_isSo_9 : decode cX11_isSo 9 = .ok (.iaload, 1) := by decide +kernel
theorem dX11_isSo_10 : decode cX11_isSo 10 = .ok (.aload_n 0, 1) := by decide +kernel
theorem dX11_isSo_11 : decode cX11_isSo 11 = .ok (.getfield 7, 3) := by decide +kernel
theorem dX11_isSo_14 : decode cX11_isSo 14 = .ok (.sipush 927, 3) := by decide +kernel
theorem dX11_isSo_17 : decode cX11_isSo 17 = .ok (.iload_n 1, 1) := by decide +kernel
theorem dX11_isSo_18 : decode cX11_isSo 18 = .ok (.iadd, 1) := by decide +kernel
theorem dX11_isSo_19 : decode cX11_isSo 19 = .ok (.iaload, 1) := by decide +kernel
theorem dX11_isSo_20 : decode cX11_isSo 20 = .ok (.if_icmp .eq 32, 3) := by decide +kernel
theorem dX11_isSo_23 : decode cX11_isSo 23 = .ok (.aload_n 0, 1) := by decide +kernel
theorem dX11_isSo_24 : decode cX11_isSo 24 = .ok (.iconst 0, 1) := by decide +kernel
theorem dX11_isSo_25 : decode cX11_isSo 25 = .ok (.aload_n 0, 1) := by decide +kernel
theorem dX11_isSo_26 : decode cX11_isSo 26 = .ok (.getfield 7, 3) := by decide +kernel
theorem dX11_isSo_29 : decode cX11_isSo 29 = .ok (.sipush 927, 3) := by decide +kernel
theorem dX11_isSo_32 : decode cX11_isSo 32 = .ok (.iload_n 1, 1) := by decide +kernel
theorem dX11_isSo_33 : decode cX11_isSo 33 = .ok (.iadd, 1) := by decide +kernel
theorem dX11_isSo_34 : decode cX11_isSo 34 = .ok (.iaload, 1) := by decide +kernel
theorem dX11_isSo_35 : decode cX11_isSo 35 = .ok (.aload_n 0, 1) := by decide +kernel
theorem dX11_isSo_36 : decode cX11_isSo 36 = .ok (.getfield 7, 3) := by decide +kernel
theorem dX11_isSo_39 : decode cX11_isSo 39 = .ok (.sipush 943, 3) := by decide +kernel
theorem dX11_isSo_42 : decode cX11_isSo 42 = .ok (.iload_n 1, 1) := by decide +kernel
theorem dX11_isSo_43 : decode cX11_isSo 43 = .ok (.iadd, 1) := by decide +kernel
theorem dX11_isSo_44 : decode cX11_isSo 44 = .ok (.iaload, 1) := by decide +kernel
theorem dX11_isSo_45 : decode cX11_isSo 45 = .ok (.invokevirtual 318, 3) := by decide +kernel
theorem dX11_isSo_48 : decode cX11_isSo 48 = .ok (.iconst 1, 1) := by decide +kernel
theorem dX11_isSo_49 : decode cX11_isSo 49 = .ok (.if_icmp .ne 7, 3) := by decide +kernel
theorem dX11_isSo_52 : decode cX11_isSo 52 = .ok (.iconst 1, 1) := by decide +kernel
theorem dX11_isSo_53 : decode cX11_isSo 53 = .ok (.goto 4, 3) := by decide +kernel
theorem dX11_isSo_56 : decode cX11_isSo 56 = .ok (.iconst 0, 1) := by decide +kernel
theorem dX11_isSo_57 : decode cX11_isSo 57 = .ok (.ireturn, 1) := by decide +kernel
theorem dX11_clears_0 : decode cX11_clears 0 = .ok (.iconst 0, 1) := by decide +kernel
theorem dX11_clears_1 : decode cX11_clears 1 = .ok (.istore_n 1, 1) := by decide +kernel
theorem dX11_clears_2 : decode cX11_clears 2 = .ok (.iload_n 1, 1) := by decide +kernel
theorem dX11_clears_3 : decode cX11_clears 3 = .ok (.aload_n 0, 1) := by decide +kernel
theorem dX11_clears_4 : decode cX11_clears 4 = .ok (.getfield 37, 3) := by decide +kernel
theorem dX11_clears_7 : decode cX11_clears 7 = .ok (.arraylength, 1) := by decide +kernel
theorem dX11_clears_8 : decode cX11_clears 8 = .ok (.if_icmp .ge 16, 3) := by decide +kernel
theorem dX11_clears_11 : decode cX11_clears 11 = .ok (.aload_n 0, 1) := by decide +kernel
theorem dX11_clears_12 : decode cX11_clears 12 = .ok (.getfield 37, 3) := by decide +kernel
theorem dX11_clears_15 : decode cX11_clears 15 = .ok (.iload_n 1, 1) := by decide +kernel
theorem dX11_clears_16 : decode cX11_clears 16 = .ok (.iconst 0, 1) := by decide +kernel
theorem dX11_clears_17 : decode cX11_clears 17 = .ok (.iastore, 1) := by decide +kernel
theorem dX11_clears_18 : decode cX11_clears 18 = .ok (.iinc 1 1, 3) := by decide +kernel
theorem dX11_clears_21 : decode cX11_clears 21 = .ok (.goto (-19), 3) := by decide +kernel
theorem dX11_clears_24 : decode cX11_clears 24 = .ok (.aload_n 0, 1) := by decide +kernel
theorem dX11_clears_25 : decode cX11_clears 25 = .ok (.getfield 37, 3) := by decide +kernel
theorem dX11_clears_28 : decode cX11_clears 28 = .ok (.bipush 10, 2) := by decide +kernel
theorem dX11_clears_30 : decode cX11_clears 30 = .ok (.aload_n 0, 1) := by decide +kernel
theorem dX11_clears_31 : decode cX11_clears 31 = .ok (.getfield 7, 3) := by decide +kernel
theorem dX11_clears_34 : decode cX11_clears 34 = .ok (.iconst 0, 1) := by decide +kernel
theorem dX11_clears_35 : decode cX11_clears 35 = .ok (.iaload, 1) := by decide +kernel
theorem dX11_clears_36 : decode cX11_clears 36 = .ok (.iastore, 1) := by decide +kernel
theorem dX11_clears_37 : decode cX11_clears 37 = .ok (.return_, 1) := by decide +kernel
theorem dX11_says_0 : decode cX11_says 0 = .ok (.iconst 0, 1) := by decide +kernel
theorem dX11_says_1 : decode cX11_says 1 = .ok (.istore 4, 2) := by decide +kernel
theorem dX11_says_3 : decode cX11_says 3 = .ok (.iload 4, 2) := by decide +kernel
theorem dX11_says_5 : decode cX11_says 5 = .ok (.aload_n 0, 1) := by decide +kernel
theorem dX11_says_6 : decode cX11_says 6 = .ok (.getfield 7, 3) := by decide +kernel
theorem dX11_says_9 : decode cX11_says 9 = .ok (.bipush 86, 2) := by decide +kernel
theorem dX11_says_11 : decode cX11_says 11 = .ok (.iaload, 1) := by decide +kernel
theorem dX11_says_12 : decode cX11_says 12 = .ok (.if_icmp .ge 69, 3) := by decide +kernel
theorem dX11_says_15 : decode cX11_says 15 = .ok (.aload_n 0, 1) := by decide +kernel
theorem dX11_says_16 : decode cX11_says 16 = .ok (.getfield 7, 3) := by decide +kernel
theorem dX11_says_19 : decode cX11_says 19 = .ok (.sipush 959, 3) := by decide +kernel
theorem dX11_says_22 : decode cX11_says 22 = .ok (.iload 4, 2) := by decide +kernel
theorem dX11_says_24 : decode cX11_says 24 = .ok (.iadd, 1) := by decide +kernel
theorem dX11_says_25 : decode cX11_says 25 = .ok (.iaload, 1) := by decide +kernel
theorem dX11_says_26 : decode cX11_says 26 = .ok (.iload_n 1, 1) := by decide +kernel
theorem dX11_says_27 : decode cX11_says 27 = .ok (.if_icmp .ne 48, 3) := by decide +kernel
theorem dX11_says_30 : decode cX11_says 30 = .ok (.aload_n 0, 1) := by decide +kernel
theorem dX11_says_31 : decode cX11_says 31 = .ok (.iload 4, 2) := by decide +kernel
theorem dX11_says_33 : decode cX11_says 33 = .ok (.invokevirtual 321, 3) := by decide +kernel
theorem dX11_says_36 : decode cX11_says 36 = .ok (.ifCond .eq 39, 3) := by decide +kernel
theorem dX11_says_39 : decode cX11_says 39 = .ok (.iconst 0, 1) := by decide +kernel
theorem dX11_says_40 : decode cX11_says 40 = .ok (.iload_n 3, 1) := by decide +kernel
theorem dX11_says_41 : decode cX11_says 41 = .ok (.aload_n 0, 1) := by decide +kernel
theorem dX11_says_42 : decode cX11_says 42 = .ok (.iconst 0, 1) := by decide +kernel
theorem dX11_says_43 : decode cX11_says 43 = .ok (.aload_n 0, 1) := by decide +kernel
theorem dX11_says_44 : decode cX11_says 44 = .ok (.getfield 7, 3) := by decide +kernel
theorem dX11_says_47 : decode cX11_says 47 = .ok (.sipush 911, 3) := by decide +kernel
theorem dX11_says_50 : decode cX11_says 50 = .ok (.iload 4, 2) := by decide +kernel
theorem dX11_says_52 : decode cX11_says 52 = .ok (.iadd, 1) := by decide +kernel
theorem dX11_says_53 : decode cX11_says 53 = .ok (.iaload, 1) := by decide +kernel
theorem dX11_says_54 : decode cX11_says 54 = .ok (.aload_n 0, 1) := by decide +kernel
theorem dX11_says_55 : decode cX11_says 55 = .ok (.getfield 7, 3) := by decide +kernel
theorem dX11_says_58 : decode cX11_says 58 = .ok (.sipush 927, 3) := by decide +kernel
theorem dX11_says_61 : decode cX11_says 61 = .ok (.iload 4, 2) := by decide +kernel
theorem dX11_says_63 : decode cX11_says 63 = .ok (.iadd, 1) := by decide +kernel
theorem dX11_says_64 : decode cX11_says 64 = .ok (.iaload, 1) := by decide +kernel
theorem dX11_says_65 : decode cX11_says 65 = .ok (.invokevirtual 318, 3) := by decide +kernel
theorem dX11_says_68 : decode cX11_says 68 = .ok (.invokestatic 324, 3) := by decide +kernel
theorem dX11_says_71 : decode cX11_says 71 = .ok (.invokestatic 327, 3) := by decide +kernel
theorem dX11_says_74 : decode cX11_says 74 = .ok (.ireturn, 1) := by decide +kernel
theorem dX11_says_75 : decode cX11_says 75 = .ok (.iinc 4 1, 3) := by decide +kernel
theorem dX11_says_78 : decode cX11_says 78 = .ok (.goto (-75), 3) := by decide +kernel
theorem dX11_says_81 : decode cX11_says 81 = .ok (.iconst 0, 1) := by decide +kernel
theorem dX11_says_82 : decode cX11_says 82 = .ok (.iload_n 3, 1) := by decide +kernel
theorem dX11_says_83 : decode cX11_says 83 = .ok (.iload_n 2, 1) := by decide +kernel
theorem dX11_says_84 : decode cX11_says 84 = .ok (.invokestatic 324, 3) := by decide +kernel
theorem dX11_says_87 : decode cX11_says 87 = .ok (.invokestatic 327, 3) := by decide +kernel
theorem dX11_says_90 : decode cX11_says 90 = .ok (.ireturn, 1) := by decide +kernel
theorem dX11_laysTwo_0 : decode cX11_laysTwo 0 = .ok (.aload_n 0, 1) := by decide +kernel
theorem dX11_laysTwo_1 : decode cX11_laysTwo 1 = .ok (.invokevirtual 330, 3) := by decide +kernel
theorem dX11_laysTwo_4 : decode cX11_laysTwo 4 = .ok (.aload_n 0, 1) := by decide +kernel
theorem dX11_laysTwo_5 : decode cX11_laysTwo 5 = .ok (.getfield 37, 3) := by decide +kernel
theorem dX11_laysTwo_8 : decode cX11_laysTwo 8 = .ok (.iconst 5, 1) := by decide +kernel
theorem dX11_laysTwo_9 : decode cX11_laysTwo 9 = .ok (.aload_n 0, 1) := by decide +kernel
theorem dX11_laysTwo_10 : decode cX11_laysTwo 10 = .ok (.getfield 7, 3) := by decide +kernel
theorem dX11_laysTwo_13 : decode cX11_laysTwo 13 = .ok (.sipush 139, 3) := by decide +kernel
theorem dX11_laysTwo_16 : decode cX11_laysTwo 16 = .ok (.iload_n 1, 1) := by decide +kernel
theorem dX11_laysTwo_17 : decode cX11_laysTwo 17 = .ok (.iadd, 1) := by decide +kernel
theorem dX11_laysTwo_18 : decode cX11_laysTwo 18 = .ok (.iaload, 1) := by decide +kernel
theorem dX11_laysTwo_19 : decode cX11_laysTwo 19 = .ok (.iload_n 2, 1) := by decide +kernel
theorem dX11_laysTwo_20 : decode cX11_laysTwo 20 = .ok (.ishr, 1) := by decide +kernel
theorem dX11_laysTwo_21 : decode cX11_laysTwo 21 = .ok (.iconst 1, 1) := by decide +kernel
theorem dX11_laysTwo_22 : decode cX11_laysTwo 22 = .ok (.iand, 1) := by decide +kernel
theorem dX11_laysTwo_23 : decode cX11_laysTwo 23 = .ok (.iastore, 1) := by decide +kernel
theorem dX11_laysTwo_24 : decode cX11_laysTwo 24 = .ok (.aload_n 0, 1) := by decide +kernel
theorem dX11_laysTwo_25 : decode cX11_laysTwo 25 = .ok (.getfield 37, 3) := by decide +kernel
theorem dX11_laysTwo_28 : decode cX11_laysTwo 28 = .ok (.bipush 6, 2) := by decide +kernel
theorem dX11_laysTwo_30 : decode cX11_laysTwo 30 = .ok (.aload_n 0, 1) := by decide +kernel
theorem dX11_laysTwo_31 : decode cX11_laysTwo 31 = .ok (.getfield 7, 3) := by decide +kernel
theorem dX11_laysTwo_34 : decode cX11_laysTwo 34 = .ok (.bipush 103, 2) := by decide +kernel
theorem dX11_laysTwo_36 : decode cX11_laysTwo 36 = .ok (.iload_n 1, 1) := by decide +kernel
theorem dX11_laysTwo_37 : decode cX11_laysTwo 37 = .ok (.iadd, 1) := by decide +kernel
theorem dX11_laysTwo_38 : decode cX11_laysTwo 38 = .ok (.iaload, 1) := by decide +kernel
theorem dX11_laysTwo_39 : decode cX11_laysTwo 39 = .ok (.aload_n 0, 1) := by decide +kernel
theorem dX11_laysTwo_40 : decode cX11_laysTwo 40 = .ok (.getfield 7, 3) := by decide +kernel
theorem dX11_laysTwo_43 : decode cX11_laysTwo 43 = .ok (.bipush 103, 2) := by decide +kernel
theorem dX11_laysTwo_45 : decode cX11_laysTwo 45 = .ok (.iload_n 2, 1) := by decide +kernel
theorem dX11_laysTwo_46 : decode cX11_laysTwo 46 = .ok (.iadd, 1) := by decide +kernel
theorem dX11_laysTwo_47 : decode cX11_laysTwo 47 = .ok (.iaload, 1) := by decide +kernel
theorem dX11_laysTwo_48 : decode cX11_laysTwo 48 = .ok (.isub, 1) := by decide +kernel
theorem dX11_laysTwo_49 : decode cX11_laysTwo 49 = .ok (.invokestatic 100, 3) := by decide +kernel
theorem dX11_laysTwo_52 : decode cX11_laysTwo 52 = .ok (.iastore, 1) := by decide +kernel
theorem dX11_laysTwo_53 : decode cX11_laysTwo 53 = .ok (.return_, 1) := by decide +kernel
theorem dX11_matchOf_0 : decode cX11_matchOf 0 = .ok (.aload_n 0, 1) := by decide +kernel
theorem dX11_matchOf_1 : decode cX11_matchOf 1 = .ok (.iload_n 1, 1) := by decide +kernel
theorem dX11_matchOf_2 : decode cX11_matchOf 2 = .ok (.iload_n 2, 1) := by decide +kernel
theorem dX11_matchOf_3 : decode cX11_matchOf 3 = .ok (.invokevirtual 333, 3) := by decide +kernel
theorem dX11_matchOf_6 : decode cX11_matchOf 6 = .ok (.aload_n 0, 1) := by decide +kernel
theorem dX11_matchOf_7 : decode cX11_matchOf 7 = .ok (.getfield 37, 3) := by decide +kernel
theorem dX11_matchOf_10 : decode cX11_matchOf 10 = .ok (.iconst 1, 1) := by decide +kernel
theorem dX11_matchOf_11 : decode cX11_matchOf 11 = .ok (.aload_n 0, 1) := by decide +kernel
theorem dX11_matchOf_12 : decode cX11_matchOf 12 = .ok (.getfield 7, 3) := by decide +kernel
theorem dX11_matchOf_15 : decode cX11_matchOf 15 = .ok (.bipush 103, 2) := by decide +kernel
theorem dX11_matchOf_17 : decode cX11_matchOf 17 = .ok (.iload_n 1, 1) := by decide +kernel
theorem dX11_matchOf_18 : decode cX11_matchOf 18 = .ok (.iadd, 1) := by decide +kernel
theorem dX11_matchOf_19 : decode cX11_matchOf 19 = .ok (.iaload, 1) := by decide +kernel
theorem dX11_matchOf_20 : decode cX11_matchOf 20 = .ok (.iastore, 1) := by decide +kernel
theorem dX11_matchOf_21 : decode cX11_matchOf 21 = .ok (.aload_n 0, 1) := by decide +kernel
theorem dX11_matchOf_22 : decode cX11_matchOf 22 = .ok (.getfield 37, 3) := by decide +kernel
theorem dX11_matchOf_25 : decode cX11_matchOf 25 = .ok (.iconst 2, 1) := by decide +kernel
theorem dX11_matchOf_26 : decode cX11_matchOf 26 = .ok (.aload_n 0, 1) := by decide +kernel
theorem dX11_matchOf_27 : decode cX11_matchOf 27 = .ok (.getfield 7, 3) := by decide +kernel
theorem dX11_matchOf_30 : decode cX11_matchOf 30 = .ok (.bipush 115, 2) := by decide +kernel
theorem dX11_matchOf_32 : decode cX11_matchOf 32 = .ok (.iload_n 1, 1) := by decide +kernel
theorem dX11_matchOf_33 : decode cX11_matchOf 33 = .ok (.iadd, 1) := by decide +kernel
theorem dX11_matchOf_34 : decode cX11_matchOf 34 = .ok (.iaload, 1) := by decide +kernel
theorem dX11_matchOf_35 : decode cX11_matchOf 35 = .ok (.iastore, 1) := by decide +kernel
theorem dX11_matchOf_36 : decode cX11_matchOf 36 = .ok (.aload_n 0, 1) := by decide +kernel
theorem dX11_matchOf_37 : decode cX11_matchOf 37 = .ok (.getfield 37, 3) := by decide +kernel
theorem dX11_matchOf_40 : decode cX11_matchOf 40 = .ok (.iconst 3, 1) := by decide +kernel
theorem dX11_matchOf_41 : decode cX11_matchOf 41 = .ok (.aload_n 0, 1) := by decide +kernel
theorem dX11_matchOf_42 : decode cX11_matchOf 42 = .ok (.getfield 7, 3) := by decide +kernel
theorem dX11_matchOf_45 : decode cX11_matchOf 45 = .ok (.bipush 103, 2) := by decide +kernel
theorem dX11_matchOf_47 : decode cX11_matchOf 47 = .ok (.iload_n 2, 1) := by decide +kernel
theorem dX11_matchOf_48 : decode cX11_matchOf 48 = .ok (.iadd, 1) := by decide +kernel
theorem dX11_matchOf_49 : decode cX11_matchOf 49 = .ok (.iaload, 1) := by decide +kernel
theorem dX11_matchOf_50 : decode cX11_matchOf 50 = .ok (.iastore, 1) := by decide +kernel
theorem dX11_matchOf_51 : decode cX11_matchOf 51 = .ok (.aload_n 0, 1) := by decide +kernel
theorem dX11_matchOf_52 : decode cX11_matchOf 52 = .ok (.getfield 37, 3) := by decide +kernel
theorem dX11_matchOf_55 : decode cX11_matchOf 55 = .ok (.iconst 4, 1) := by decide +kernel
theorem dX11_matchOf_56 : decode cX11_matchOf 56 = .ok (.aload_n 0, 1) := by decide +kernel
theorem dX11_matchOf_57 : decode cX11_matchOf 57 = .ok (.getfield 7, 3) := by decide +kernel
theorem dX11_matchOf_60 : decode cX11_matchOf 60 = .ok (.bipush 115, 2) := by decide +kernel
theorem dX11_matchOf_62 : decode cX11_matchOf 62 = .ok (.iload_n 2, 1) := by decide +kernel
theorem dX11_matchOf_63 : decode cX11_matchOf 63 = .ok (.iadd, 1) := by decide +kernel
theorem dX11_matchOf_64 : decode cX11_matchOf 64 = .ok (.iaload, 1) := by decide +kernel
theorem dX11_matchOf_65 : decode cX11_matchOf 65 = .ok (.iastore, 1) := by decide +kernel
theorem dX11_matchOf_66 : decode cX11_matchOf 66 = .ok (.aload_n 0, 1) := by decide +kernel
theorem dX11_matchOf_67 : decode cX11_matchOf 67 = .ok (.bipush 20, 2) := by decide +kernel
theorem dX11_matchOf_69 : decode cX11_matchOf 69 = .ok (.bipush 9, 2) := by decide +kernel
theorem dX11_matchOf_71 : decode cX11_matchOf 71 = .ok (.aload_n 0, 1) := by decide +kernel
theorem dX11_matchOf_72 : decode cX11_matchOf 72 = .ok (.getfield 37, 3) := by decide +kernel
theorem dX11_matchOf_75 : decode cX11_matchOf 75 = .ok (.bipush 6, 2) := by decide +kernel
theorem dX11_matchOf_77 : decode cX11_matchOf 77 = .ok (.iaload, 1) := by decide +kernel
theorem dX11_matchOf_78 : decode cX11_matchOf 78 = .ok (.isub, 1) := by decide +kernel
theorem dX11_matchOf_79 : decode cX11_matchOf 79 = .ok (.bipush 9, 2) := by decide +kernel
theorem dX11_matchOf_81 : decode cX11_matchOf 81 = .ok (.invokevirtual 336, 3) := by decide +kernel
theorem dX11_matchOf_84 : decode cX11_matchOf 84 = .ok (.ireturn, 1) := by decide +kernel
theorem dX11_foundOf_0 : decode cX11_foundOf 0 = .ok (.aload_n 0, 1) := by decide +kernel
theorem dX11_foundOf_1 : decode cX11_foundOf 1 = .ok (.iload_n 1, 1) := by decide +kernel
theorem dX11_foundOf_2 : decode cX11_foundOf 2 = .ok (.iload_n 2, 1) := by decide +kernel
theorem dX11_foundOf_3 : decode cX11_foundOf 3 = .ok (.invokevirtual 339, 3) := by decide +kernel
theorem dX11_foundOf_6 : decode cX11_foundOf 6 = .ok (.aload_n 0, 1) := by decide +kernel
theorem dX11_foundOf_7 : decode cX11_foundOf 7 = .ok (.iload_n 2, 1) := by decide +kernel
theorem dX11_foundOf_8 : decode cX11_foundOf 8 = .ok (.iload_n 1, 1) := by decide +kernel
theorem dX11_foundOf_9 : decode cX11_foundOf 9 = .ok (.invokevirtual 339, 3) := by decide +kernel
theorem dX11_foundOf_12 : decode cX11_foundOf 12 = .ok (.invokestatic 324, 3) := by decide +kernel
theorem dX11_foundOf_15 : decode cX11_foundOf 15 = .ok (.ireturn, 1) := by decide +kernel
theorem dX11_liftOf_0 : decode cX11_liftOf 0 = .ok (.aload_n 0, 1) := by decide +kernel
theorem dX11_liftOf_1 : decode cX11_liftOf 1 = .ok (.iload_n 1, 1) := by decide +kernel
theorem dX11_liftOf_2 : decode cX11_liftOf 2 = .ok (.iload_n 2, 1) := by decide +kernel
theorem dX11_liftOf_3 : decode cX11_liftOf 3 = .ok (.invokevirtual 342, 3) := by decide +kernel
theorem dX11_liftOf_6 : decode cX11_liftOf 6 = .ok (.istore 5, 2) := by decide +kernel
theorem dX11_liftOf_8 : decode cX11_liftOf 8 = .ok (.aload_n 0, 1) := by decide +kernel
theorem dX11_liftOf_9 : decode cX11_liftOf 9 = .ok (.iload_n 1, 1) := by decide +kernel
theorem dX11_liftOf_10 : decode cX11_liftOf 10 = .ok (.iload_n 2, 1) := by decide +kernel
theorem dX11_liftOf_11 : decode cX11_liftOf 11 = .ok (.invokevirtual 333, 3) := by decide +kernel
theorem dX11_liftOf_14 : decode cX11_liftOf 14 = .ok (.aload_n 0, 1) := by decide +kernel
theorem dX11_liftOf_15 : decode cX11_liftOf 15 = .ok (.getfield 37, 3) := by decide +kernel
theorem dX11_liftOf_18 : decode cX11_liftOf 18 = .ok (.bipush 9, 2) := by decide +kernel
theorem dX11_liftOf_20 : decode cX11_liftOf 20 = .ok (.iload 5, 2) := by decide +kernel
theorem dX11_liftOf_22 : decode cX11_liftOf 22 = .ok (.iastore, 1) := by decide +kernel
theorem dX11_liftOf_23 : decode cX11_liftOf 23 = .ok (.aload_n 0, 1) := by decide +kernel
theorem dX11_liftOf_24 : decode cX11_liftOf 24 = .ok (.getfield 37, 3) := by decide +kernel
theorem dX11_liftOf_27 : decode cX11_liftOf 27 = .ok (.bipush 7, 2) := by decide +kernel
theorem dX11_liftOf_29 : decode cX11_liftOf 29 = .ok (.iload_n 3, 1) := by decide +kernel
theorem dX11_liftOf_30 : decode cX11_liftOf 30 = .ok (.iload 4, 2) := by decide +kernel
theorem dX11_liftOf_32 : decode cX11_liftOf 32 = .ok (.invokestatic 345, 3) := by decide +kernel
theorem dX11_liftOf_35 : decode cX11_liftOf 35 = .ok (.iastore, 1) := by decide +kernel
theorem dX11_liftOf_36 : decode cX11_liftOf 36 = .ok (.aload_n 0, 1) := by decide +kernel
theorem dX11_liftOf_37 : decode cX11_liftOf 37 = .ok (.getfield 37, 3) := by decide +kernel
theorem dX11_liftOf_40 : decode cX11_liftOf 40 = .ok (.bipush 8, 2) := by decide +kernel
theorem dX11_liftOf_42 : decode cX11_liftOf 42 = .ok (.aload_n 0, 1) := by decide +kernel
theorem dX11_liftOf_43 : decode cX11_liftOf 43 = .ok (.getfield 7, 3) := by decide +kernel
theorem dX11_liftOf_46 : decode cX11_liftOf 46 = .ok (.iconst 4, 1) := by decide +kernel
theorem dX11_liftOf_47 : decode cX11_liftOf 47 = .ok (.iload 4, 2) := by decide +kernel
theorem dX11_liftOf_49 : decode cX11_liftOf 49 = .ok (.iadd, 1) := by decide +kernel
theorem dX11_liftOf_50 : decode cX11_liftOf 50 = .ok (.iaload, 1) := by decide +kernel
theorem dX11_liftOf_51 : decode cX11_liftOf 51 = .ok (.iastore, 1) := by decide +kernel
theorem dX11_liftOf_52 : decode cX11_liftOf 52 = .ok (.aload_n 0, 1) := by decide +kernel
theorem dX11_liftOf_53 : decode cX11_liftOf 53 = .ok (.bipush 21, 2) := by decide +kernel
theorem dX11_liftOf_55 : decode cX11_liftOf 55 = .ok (.iconst 2, 1) := by decide +kernel
theorem dX11_liftOf_56 : decode cX11_liftOf 56 = .ok (.iload 5, 2) := by decide +kernel
theorem dX11_liftOf_58 : decode cX11_liftOf 58 = .ok (.imul, 1) := by decide +kernel
theorem dX11_liftOf_59 : decode cX11_liftOf 59 = .ok (.iload_n 3, 1) := by decide +kernel
theorem dX11_liftOf_60 : decode cX11_liftOf 60 = .ok (.iload 4, 2) := by decide +kernel
theorem dX11_liftOf_62 : decode cX11_liftOf 62 = .ok (.invokestatic 345, 3) := by decide +kernel
theorem dX11_liftOf_65 : decode cX11_liftOf 65 = .ok (.isub, 1) := by decide +kernel
theorem dX11_liftOf_66 : decode cX11_liftOf 66 = .ok (.bipush 99, 2) := by decide +kernel
theorem dX11_liftOf_68 : decode cX11_liftOf 68 = .ok (.invokevirtual 336, 3) := by decide +kernel
theorem dX11_liftOf_71 : decode cX11_liftOf 71 = .ok (.ireturn, 1) := by decide +kernel
theorem dX11_meltOf_0 : decode cX11_meltOf 0 = .ok (.aload_n 0, 1) := by decide +kernel
theorem dX11_meltOf_1 : decode cX11_meltOf 1 = .ok (.invokevirtual 330, 3) := by decide +kernel
theorem dX11_meltOf_4 : decode cX11_meltOf 4 = .ok (.aload_n 0, 1) := by decide +kernel
theorem dX11_meltOf_5 : decode cX11_meltOf 5 = .ok (.getfield 37, 3) := by decide +kernel
theorem dX11_meltOf_8 : decode cX11_meltOf 8 = .ok (.bipush 8, 2) := by decide +kernel
theorem dX11_meltOf_10 : decode cX11_meltOf 10 = .ok (.aload_n 0, 1) := by decide +kernel
theorem dX11_meltOf_11 : decode cX11_meltOf 11 = .ok (.getfield 7, 3) := by decide +kernel
theorem dX11_meltOf_14 : decode cX11_meltOf 14 = .ok (.iconst 4, 1) := by decide +kernel
theorem dX11_meltOf_15 : decode cX11_meltOf 15 = .ok (.iload_n 1, 1) := by decide +kernel
theorem dX11_meltOf_16 : decode cX11_meltOf 16 = .ok (.iadd, 1) := by decide +kernel
theorem dX11_meltOf_17 : decode cX11_meltOf 17 = .ok (.iaload, 1) := by decide +kernel
theorem dX11_meltOf_18 : decode cX11_meltOf 18 = .ok (.iastore, 1) := by decide +kernel
theorem dX11_meltOf_19 : decode cX11_meltOf 19 = .ok (.aload_n 0, 1) := by decide +kernel
theorem dX11_meltOf_20 : decode cX11_meltOf 20 = .ok (.bipush 22, 2) := by decide +kernel
theorem dX11_meltOf_22 : decode cX11_meltOf 22 = .ok (.iconst 0, 1) := by decide +kernel
theorem dX11_meltOf_23 : decode cX11_meltOf 23 = .ok (.bipush 99, 2) := by decide +kernel
theorem dX11_meltOf_25 : decode cX11_meltOf 25 = .ok (.invokevirtual 336, 3) := by decide +kernel
theorem dX11_meltOf_28 : decode cX11_meltOf 28 = .ok (.ireturn, 1) := by decide +kernel
theorem dX11_keeps_0 : decode cX11_keeps 0 = .ok (.aload_n 0, 1) := by decide +kernel
theorem dX11_keeps_1 : decode cX11_keeps 1 = .ok (.getfield 86, 3) := by decide +kernel
theorem dX11_keeps_4 : decode cX11_keeps 4 = .ok (.bipush 6, 2) := by decide +kernel
theorem dX11_keeps_6 : decode cX11_keeps 6 = .ok (.if_icmp .ne 43, 3) := by decide +kernel
theorem dX11_keeps_9 : decode cX11_keeps 9 = .ok (.iconst 0, 1) := by decide +kernel
theorem dX11_keeps_10 : decode cX11_keeps 10 = .ok (.istore_n 1, 1) := by decide +kernel
theorem dX11_keeps_11 : decode cX11_keeps 11 = .ok (.iload_n 1, 1) := by decide +kernel
theorem dX11_keeps_12 : decode cX11_keeps 12 = .ok (.sipush 400, 3) := by decide +kernel
theorem dX11_keeps_15 : decode cX11_keeps 15 = .ok (.if_icmp .ge 24, 3) := by decide +kernel
theorem dX11_keeps_18 : decode cX11_keeps 18 = .ok (.aload_n 0, 1) := by decide +kernel
theorem dX11_keeps_19 : decode cX11_keeps 19 = .ok (.getfield 16, 3) := by decide +kernel
theorem dX11_keeps_22 : decode cX11_keeps 22 = .ok (.iload_n 1, 1) := by decide +kernel
theorem dX11_keeps_23 : decode cX11_keeps 23 = .ok (.aload_n 0, 1) := by decide +kernel
theorem dX11_keeps_24 : decode cX11_keeps 24 = .ok (.getfield 16, 3) := by decide +kernel
theorem dX11_keeps_27 : decode cX11_keeps 27 = .ok (.iload_n 1, 1) := by decide +kernel
theorem dX11_keeps_28 : decode cX11_keeps 28 = .ok (.bipush 80, 2) := by decide +kernel
theorem dX11_keeps_30 : decode cX11_keeps 30 = .ok (.iadd, 1) := by decide +kernel
theorem dX11_keeps_31 : decode cX11_keeps 31 = .ok (.iaload, 1) := by decide +kernel
theorem dX11_keeps_32 : decode cX11_keeps 32 = .ok (.iastore, 1) := by decide +kernel
theorem dX11_keeps_33 : decode cX11_keeps 33 = .ok (.iinc 1 1, 3) := by decide +kernel
theorem dX11_keeps_36 : decode cX11_keeps 36 = .ok (.goto (-25), 3) := by decide +kernel
theorem dX11_keeps_39 : decode cX11_keeps 39 = .ok (.aload_n 0, 1) := by decide +kernel
theorem dX11_keeps_40 : decode cX11_keeps 40 = .ok (.dup, 1) := by decide +kernel
theorem dX11_keeps_41 : decode cX11_keeps 41 = .ok (.getfield 86, 3) := by decide +kernel
theorem dX11_keeps_44 : decode cX11_keeps 44 = .ok (.iconst 1, 1) := by decide +kernel
theorem dX11_keeps_45 : decode cX11_keeps 45 = .ok (.isub, 1) := by decide +kernel
theorem dX11_keeps_46 : decode cX11_keeps 46 = .ok (.putfield 86, 3) := by decide +kernel
theorem dX11_keeps_49 : decode cX11_keeps 49 = .ok (.iconst 0, 1) := by decide +kernel
theorem dX11_keeps_50 : decode cX11_keeps 50 = .ok (.istore_n 1, 1) := by decide +kernel
theorem dX11_keeps_51 : decode cX11_keeps 51 = .ok (.iload_n 1, 1) := by decide +kernel
theorem dX11_keeps_52 : decode cX11_keeps 52 = .ok (.bipush 80, 2) := by decide +kernel
theorem dX11_keeps_54 : decode cX11_keeps 54 = .ok (.if_icmp .ge 29, 3) := by decide +kernel
theorem dX11_keeps_57 : decode cX11_keeps 57 = .ok (.aload_n 0, 1) := by decide +kernel
theorem dX11_keeps_58 : decode cX11_keeps 58 = .ok (.getfield 16, 3) := by decide +kernel
theorem dX11_keeps_61 : decode cX11_keeps 61 = .ok (.bipush 80, 2) := by decide +kernel
theorem dX11_keeps_63 : decode cX11_keeps 63 = .ok (.aload_n 0, 1) := by decide +kernel
theorem dX11_keeps_64 : decode cX11_keeps 64 = .ok (.getfield 86, 3) := by decide +kernel
theorem dX11_keeps_67 : decode cX11_keeps 67 = .ok (.imul, 1) := by decide +kernel
theorem dX11_keeps_68 : decode cX11_keeps 68 = .ok (.iload_n 1, 1) := by decide +kernel
theorem dX11_keeps_69 : decode cX11_keeps 69 = .ok (.iadd, 1) := by decide +kernel
theorem dX11_keeps_70 : decode cX11_keeps 70 = .ok (.aload_n 0, 1) := by decide +kernel
theorem dX11_keeps_71 : decode cX11_keeps 71 = .ok (.getfield 7, 3) := by decide +kernel
theorem dX11_keeps_74 : decode cX11_keeps 74 = .ok (.iload_n 1, 1) := by decide +kernel
theorem dX11_keeps_75 : decode cX11_keeps 75 = .ok (.iaload, 1) := by decide +kernel
theorem dX11_keeps_76 : decode cX11_keeps 76 = .ok (.iastore, 1) := by decide +kernel
theorem dX11_keeps_77 : decode cX11_keeps 77 = .ok (.iinc 1 1, 3) := by decide +kernel
theorem dX11_keeps_80 : decode cX11_keeps 80 = .ok (.goto (-29), 3) := by decide +kernel
theorem dX11_keeps_83 : decode cX11_keeps 83 = .ok (.aload_n 0, 1) := by decide +kernel
theorem dX11_keeps_84 : decode cX11_keeps 84 = .ok (.dup, 1) := by decide +kernel
theorem dX11_keeps_85 : decode cX11_keeps 85 = .ok (.getfield 86, 3) := by decide +kernel
theorem dX11_keeps_88 : decode cX11_keeps 88 = .ok (.iconst 1, 1) := by decide +kernel
theorem dX11_keeps_89 : decode cX11_keeps 89 = .ok (.iadd, 1) := by decide +kernel
theorem dX11_keeps_90 : decode cX11_keeps 90 = .ok (.putfield 86, 3) := by decide +kernel
theorem dX11_keeps_93 : decode cX11_keeps 93 = .ok (.return_, 1) := by decide +kernel
theorem dX11_undo_0 : decode cX11_undo 0 = .ok (.aload_n 0, 1) := by decide +kernel
theorem dX11_undo_1 : decode cX11_undo 1 = .ok (.getfield 86, 3) := by decide +kernel
theorem dX11_undo_4 : decode cX11_undo 4 = .ok (.ifCond .ne 5, 3) := by decide +kernel
theorem dX11_undo_7 : decode cX11_undo 7 = .ok (.iconst 0, 1) := by decide +kernel
theorem dX11_undo_8 : decode cX11_undo 8 = .ok (.ireturn, 1) := by decide +kernel
theorem dX11_undo_9 : decode cX11_undo 9 = .ok (.aload_n 0, 1) := by decide +kernel
theorem dX11_undo_10 : decode cX11_undo 10 = .ok (.dup, 1) := by decide +kernel
theorem dX11_undo_11 : decode cX11_undo 11 = .ok (.getfield 86, 3) := by decide +kernel
theorem dX11_undo_14 : decode cX11_undo 14 = .ok (.iconst 1, 1) := by decide +kernel
theorem dX11_undo_15 : decode cX11_undo 15 = .ok (.isub, 1) := by decide +kernel
theorem dX11_undo_16 : decode cX11_undo 16 = .ok (.putfield 86, 3) := by decide +kernel
theorem dX11_undo_19 : decode cX11_undo 19 = .ok (.iconst 0, 1) := by decide +kernel
theorem dX11_undo_20 : decode cX11_undo 20 = .ok (.istore_n 1, 1) := by decide +kernel
theorem dX11_undo_21 : decode cX11_undo 21 = .ok (.iload_n 1, 1) := by decide +kernel
theorem dX11_undo_22 : decode cX11_undo 22 = .ok (.bipush 80, 2) := by decide +kernel
theorem dX11_undo_24 : decode cX11_undo 24 = .ok (.if_icmp .ge 29, 3) := by decide +kernel
theorem dX11_undo_27 : decode cX11_undo 27 = .ok (.aload_n 0, 1) := by decide +kernel
theorem dX11_undo_28 : decode cX11_undo 28 = .ok (.getfield 7, 3) := by decide +kernel
theorem dX11_undo_31 : decode cX11_undo 31 = .ok (.iload_n 1, 1) := by decide +kernel
theorem dX11_undo_32 : decode cX11_undo 32 = .ok (.aload_n 0, 1) := by decide +kernel
theorem dX11_undo_33 : decode cX11_undo 33 = .ok (.getfield 16, 3) := by decide +kernel
theorem dX11_undo_36 : decode cX11_undo 36 = .ok (.bipush 80, 2) := by decide +kernel
theorem dX11_undo_38 : decode cX11_undo 38 = .ok (.aload_n 0, 1) := by decide +kernel
theorem dX11_undo_39 : decode cX11_undo 39 = .ok (.getfield 86, 3) := by decide +kernel
theorem dX11_undo_42 : decode cX11_undo 42 = .ok (.imul, 1) := by decide +kernel
theorem dX11_undo_43 : decode cX11_undo 43 = .ok (.iload_n 1, 1) := by decide +kernel
theorem dX11_undo_44 : decode cX11_undo 44 = .ok (.iadd, 1) := by decide +kernel
theorem dX11_undo_45 : decode cX11_undo 45 = .ok (.iaload, 1) := by decide +kernel
theorem dX11_undo_46 : decode cX11_undo 46 = .ok (.iastore, 1) := by decide +kernel
theorem dX11_undo_47 : decode cX11_undo 47 = .ok (.iinc 1 1, 3) := by decide +kernel
theorem dX11_undo_50 : decode cX11_undo 50 = .ok (.goto (-29), 3) := by decide +kernel
theorem dX11_undo_53 : decode cX11_undo 53 = .ok (.iconst 1, 1) := by decide +kernel
theorem dX11_undo_54 : decode cX11_undo 54 = .ok (.ireturn, 1) := by decide +kernel
theorem dX11_notes_0 : decode cX11_notes 0 = .ok (.aload_n 0, 1) := by decide +kernel
theorem dX11_notes_1 : decode cX11_notes 1 = .ok (.getfield 347, 3) := by decide +kernel
theorem dX11_notes_4 : decode cX11_notes 4 = .ok (.ifCond .eq 15, 3) := by decide +kernel
theorem dX11_notes_7 : decode cX11_notes 7 = .ok (.aload_n 0, 1) := by decide +kernel
theorem dX11_notes_8 : decode cX11_notes 8 = .ok (.getfield 7, 3) := by decide +kernel
theorem dX11_notes_11 : decode cX11_notes 11 = .ok (.iconst 3, 1) := by decide +kernel
theorem dX11_notes_12 : decode cX11_notes 12 = .ok (.iaload, 1) := by decide +kernel
theorem dX11_notes_13 : decode cX11_notes 13 = .ok (.sipush 150, 3) := by decide +kernel
theorem dX11_notes_16 : decode cX11_notes 16 = .ok (.if_icmp .ne 4, 3) := by decide +kernel
theorem dX11_notes_19 : decode cX11_notes 19 = .ok (.return_, 1) := by decide +kernel
theorem dX11_notes_20 : decode cX11_notes 20 = .ok (.sipush 311, 3) := by decide +kernel
theorem dX11_notes_23 : decode cX11_notes 23 = .ok (.iconst 4, 1) := by decide +kernel
theorem dX11_notes_24 : decode cX11_notes 24 = .ok (.aload_n 0, 1) := by decide +kernel
theorem dX11_notes_25 : decode cX11_notes 25 = .ok (.getfield 7, 3) := by decide +kernel
theorem dX11_notes_28 : decode cX11_notes 28 = .ok (.iconst 3, 1) := by decide +kernel
theorem dX11_notes_29 : decode cX11_notes 29 = .ok (.iaload, 1) := by decide +kernel
theorem dX11_notes_30 : decode cX11_notes 30 = .ok (.imul, 1) := by decide +kernel
theorem dX11_notes_31 : decode cX11_notes 31 = .ok (.iadd, 1) := by decide +kernel
theorem dX11_notes_32 : decode cX11_notes 32 = .ok (.istore 4, 2) := by decide +kernel
theorem dX11_notes_34 : decode cX11_notes 34 = .ok (.aload_n 0, 1) := by decide +kernel
theorem dX11_notes_35 : decode cX11_notes 35 = .ok (.getfield 7, 3) := by decide +kernel
theorem dX11_notes_38 : decode cX11_notes 38 = .ok (.iload 4, 2) := by decide +kernel
theorem dX11_notes_40 : decode cX11_notes 40 = .ok (.aload_n 0, 1) := by decide +kernel
theorem dX11_notes_41 : decode cX11_notes 41 = .ok (.getfield 7, 3) := by decide +kernel
theorem dX11_notes_44 : decode cX11_notes 44 = .ok (.iconst 0, 1) := by decide +kernel
theorem dX11_notes_45 : decode cX11_notes 45 = .ok (.iaload, 1) := by decide +kernel
theorem dX11_notes_46 : decode cX11_notes 46 = .ok (.iastore, 1) := by decide +kernel
theorem dX11_notes_47 : decode cX11_notes 47 = .ok (.aload_n 0, 1) := by decide +kernel
theorem dX11_notes_48 : decode cX11_notes 48 = .ok (.getfield 7, 3) := by decide +kernel
theorem dX11_notes_51 : decode cX11_notes 51 = .ok (.iload 4, 2) := by decide +kernel
theorem dX11_notes_53 : decode cX11_notes 53 = .ok (.iconst 1, 1) := by decide +kernel
theorem dX11_notes_54 : decode cX11_notes 54 = .ok (.iadd, 1) := by decide +kernel
theorem dX11_notes_55 : decode cX11_notes 55 = .ok (.iload_n 1, 1) := by decide +kernel
theorem dX11_notes_56 : decode cX11_notes 56 = .ok (.iastore, 1) := by decide +kernel
theorem dX11_notes_57 : decode cX11_notes 57 = .ok (.aload_n 0, 1) := by decide +kernel
theorem dX11_notes_58 : decode cX11_notes 58 = .ok (.getfield 7, 3) := by decide +kernel
theorem dX11_notes_61 : decode cX11_notes 61 = .ok (.iload 4, 2) := by decide +kernel
theorem dX11_notes_63 : decode cX11_notes 63 = .ok (.iconst 2, 1) := by decide +kernel
theorem dX11_notes_64 : decode cX11_notes 64 = .ok (.iadd, 1) := by decide +kernel
theorem dX11_notes_65 : decode cX11_notes 65 = .ok (.iload_n 2, 1) := by decide +kernel
theorem dX11_notes_66 : decode cX11_notes 66 = .ok (.iastore, 1) := by decide +kernel
theorem dX11_notes_67 : decode cX11_notes 67 = .ok (.aload_n 0, 1) := by decide +kernel
theorem dX11_notes_68 : decode cX11_notes 68 = .ok (.getfield 7, 3) := by decide +kernel
theorem dX11_notes_71 : decode cX11_notes 71 = .ok (.iload 4, 2) := by decide +kernel
theorem dX11_notes_73 : decode cX11_notes 73 = .ok (.iconst 3, 1) := by decide +kernel
theorem dX11_notes_74 : decode cX11_notes 74 = .ok (.iadd, 1) := by decide +kernel
theorem dX11_notes_75 : decode cX11_notes 75 = .ok (.iload_n 3, 1) := by decide +kernel
theorem dX11_notes_76 : decode cX11_notes 76 = .ok (.iastore, 1) := by decide +kernel
theorem dX11_notes_77 : decode cX11_notes 77 = .ok (.aload_n 0, 1) := by decide +kernel
theorem dX11_notes_78 : decode cX11_notes 78 = .ok (.getfield 7, 3) := by decide +kernel
theorem dX11_notes_81 : decode cX11_notes 81 = .ok (.iconst 3, 1) := by decide +kernel
theorem dX11_notes_82 : decode cX11_notes 82 = .ok (.dup2, 1) := by decide +kernel
theorem dX11_notes_83 : decode cX11_notes 83 = .ok (.iaload, 1) := by decide +kernel
theorem dX11_notes_84 : decode cX11_notes 84 = .ok (.iconst 1, 1) := by decide +kernel
theorem dX11_notes_85 : decode cX11_notes 85 = .ok (.iadd, 1) := by decide +kernel
theorem dX11_notes_86 : decode cX11_notes 86 = .ok (.iastore, 1) := by decide +kernel
theorem dX11_notes_87 : decode cX11_notes 87 = .ok (.return_, 1) := by decide +kernel
theorem dX11_canVow_0 : decode cX11_canVow 0 = .ok (.aload_n 0, 1) := by decide +kernel
theorem dX11_canVow_1 : decode cX11_canVow 1 = .ok (.iload_n 1, 1) := by decide +kernel
theorem dX11_canVow_2 : decode cX11_canVow 2 = .ok (.iload_n 2, 1) := by decide +kernel
theorem dX11_canVow_3 : decode cX11_canVow 3 = .ok (.invokevirtual 278, 3) := by decide +kernel
theorem dX11_canVow_6 : decode cX11_canVow 6 = .ok (.ifCond .eq 31, 3) := by decide +kernel
theorem dX11_canVow_9 : decode cX11_canVow 9 = .ok (.aload_n 0, 1) := by decide +kernel
theorem dX11_canVow_10 : decode cX11_canVow 10 = .ok (.iload_n 1, 1) := by decide +kernel
theorem dX11_canVow_11 : decode cX11_canVow 11 = .ok (.invokevirtual 351, 3) := by decide +kernel
theorem dX11_canVow_14 : decode cX11_canVow 14 = .ok (.ifCond .eq 23, 3) := by decide +kernel
theorem dX11_canVow_17 : decode cX11_canVow 17 = .ok (.aload_n 0, 1) := by decide +kernel
theorem dX11_canVow_18 : decode cX11_canVow 18 = .ok (.iload_n 2, 1) := by decide +kernel
theorem dX11_canVow_19 : decode cX11_canVow 19 = .ok (.invokevirtual 351, 3) := by decide +kernel
theorem dX11_canVow_22 : decode cX11_canVow 22 = .ok (.ifCond .eq 15, 3) := by decide +kernel
theorem dX11_canVow_25 : decode cX11_canVow 25 = .ok (.aload_n 0, 1) := by decide +kernel
theorem dX11_canVow_26 : decode cX11_canVow 26 = .ok (.iload_n 3, 1) := by decide +kernel
theorem dX11_canVow_27 : decode cX11_canVow 27 = .ok (.invokevirtual 82, 3) := by decide +kernel
theorem dX11_canVow_30 : decode cX11_canVow 30 = .ok (.ifCond .eq 7, 3) := by decide +kernel
theorem dX11_canVow_33 : decode cX11_canVow 33 = .ok (.iconst 1, 1) := by decide +kernel
theorem dX11_canVow_34 : decode cX11_canVow 34 = .ok (.goto 4, 3) := by decide +kernel
theorem dX11_canVow_37 : decode cX11_canVow 37 = .ok (.iconst 0, 1) := by decide +kernel
theorem dX11_canVow_38 : decode cX11_canVow 38 = .ok (.ireturn, 1) := by decide +kernel
theorem dX11_lifts_0 : decode cX11_lifts 0 = .ok (.iconst 0, 1) := by decide +kernel
theorem dX11_lifts_1 : decode cX11_lifts 1 = .ok (.istore 5, 2) := by decide +kernel
theorem dX11_lifts_3 : decode cX11_lifts 3 = .ok (.iconst 0, 1) := by decide +kernel
theorem dX11_lifts_4 : decode cX11_lifts 4 = .ok (.istore 6, 2) := by decide +kernel
theorem dX11_lifts_6 : decode cX11_lifts 6 = .ok (.iload 6, 2) := by decide +kernel
theorem dX11_lifts_8 : decode cX11_lifts 8 = .ok (.bipush 64, 2) := by decide +kernel
theorem dX11_lifts_10 : decode cX11_lifts 10 = .ok (.if_icmp .ge 65, 3) := by decide +kernel
theorem dX11_lifts_13 : decode cX11_lifts 13 = .ok (.aload_n 0, 1) := by decide +kernel
theorem dX11_lifts_14 : decode cX11_lifts 14 = .ok (.getfield 44, 3) := by decide +kernel
theorem dX11_lifts_17 : decode cX11_lifts 17 = .ok (.iload 6, 2) := by decide +kernel
theorem dX11_lifts_19 : decode cX11_lifts 19 = .ok (.aload_n 0, 1) := by decide +kernel
theorem dX11_lifts_20 : decode cX11_lifts 20 = .ok (.iload 6, 2) := by decide +kernel
theorem dX11_lifts_22 : decode cX11_lifts 22 = .ok (.invokevirtual 82, 3) := by decide +kernel
theorem dX11_lifts_25 : decode cX11_lifts 25 = .ok (.ifCond .eq 30, 3) := by decide +kernel
theorem dX11_lifts_28 : decode cX11_lifts 28 = .ok (.aload_n 0, 1) := by decide +kernel
theorem dX11_lifts_29 : decode cX11_lifts 29 = .ok (.getfield 7, 3) := by decide +kernel
theorem dX11_lifts_32 : decode cX11_lifts 32 = .ok (.iconst 4, 1) := by decide +kernel
theorem dX11_lifts_33 : decode cX11_lifts 33 = .ok (.iload 6, 2) := by decide +kernel
theorem dX11_lifts_35 : decode cX11_lifts 35 = .ok (.iadd, 1) := by decide +kernel
theorem dX11_lifts_36 : decode cX11_lifts 36 = .ok (.iaload, 1) := by decide +kernel
theorem dX11_lifts_37 : decode cX11_lifts 37 = .ok (.aload_n 0, 1) := by decide +kernel
theorem dX11_lifts_38 : decode cX11_lifts 38 = .ok (.iload_n 1, 1) := by decide +kernel
theorem dX11_lifts_39 : decode cX11_lifts 39 = .ok (.iload_n 2, 1) := by decide +kernel
theorem dX11_lifts_40 : decode cX11_lifts 40 = .ok (.iload_n 3, 1) := by decide +kernel
theorem dX11_lifts_41 : decode cX11_lifts 41 = .ok (.iload 6, 2) := by decide +kernel
theorem dX11_lifts_43 : decode cX11_lifts 43 = .ok (.invokevirtual 354, 3) := by decide +kernel
theorem dX11_lifts_46 : decode cX11_lifts 46 = .ok (.iload 4, 2) := by decide +kernel
theorem dX11_lifts_48 : decode cX11_lifts 48 = .ok (.idiv, 1) := by decide +kernel
theorem dX11_lifts_49 : decode cX11_lifts 49 = .ok (.invokestatic 324, 3) := by decide +kernel
theorem dX11_lifts_52 : decode cX11_lifts 52 = .ok (.goto 4, 3) := by decide +kernel
theorem dX11_lifts_55 : decode cX11_lifts 55 = .ok (.iconst 0, 1) := by decide +kernel
theorem dX11_lifts_56 : decode cX11_lifts 56 = .ok (.iastore, 1) := by decide +kernel
theorem dX11_lifts_57 : decode cX11_lifts 57 = .ok (.iload 5, 2) := by decide +kernel
theorem dX11_lifts_59 : decode cX11_lifts 59 = .ok (.aload_n 0, 1) := by decide +kernel
theorem dX11_lifts_60 : decode cX11_lifts 60 = .ok (.getfield 44, 3) := by decide +kernel
theorem dX11_lifts_63 : decode cX11_lifts 63 = .ok (.iload 6, 2) := by decide +kernel
theorem dX11_lifts_65 : decode cX11_lifts 65 = .ok (.iaload, 1) := by decide +kernel
theorem dX11_lifts_66 : decode cX11_lifts 66 = .ok (.iadd, 1) := by decide +kernel
theorem dX11_lifts_67 : decode cX11_lifts 67 = .ok (.istore 5, 2) := by decide +kernel
theorem dX11_lifts_69 : decode cX11_lifts 69 = .ok (.iinc 6 1, 3) := by decide +kernel
theorem dX11_lifts_72 : decode cX11_lifts 72 = .ok (.goto (-66), 3) := by decide +kernel
theorem dX11_lifts_75 : decode cX11_lifts 75 = .ok (.iload 5, 2) := by decide +kernel
theorem dX11_lifts_77 : decode cX11_lifts 77 = .ok (.ireturn, 1) := by decide +kernel
theorem dX11_rises_0 : decode cX11_rises 0 = .ok (.aload_n 0, 1) := by decide +kernel
theorem dX11_rises_1 : decode cX11_rises 1 = .ok (.iload_n 1, 1) := by decide +kernel
theorem dX11_rises_2 : decode cX11_rises 2 = .ok (.iload_n 2, 1) := by decide +kernel
theorem dX11_rises_3 : decode cX11_rises 3 = .ok (.iload_n 3, 1) := by decide +kernel
theorem dX11_rises_4 : decode cX11_rises 4 = .ok (.iconst 1, 1) := by decide +kernel
theorem dX11_rises_5 : decode cX11_rises 5 = .ok (.invokevirtual 358, 3) := by decide +kernel
theorem dX11_rises_8 : decode cX11_rises 8 = .ok (.istore 4, 2) := by decide +kernel
theorem dX11_rises_10 : decode cX11_rises 10 = .ok (.iconst 0, 1) := by decide +kernel
theorem dX11_rises_11 : decode cX11_rises 11 = .ok (.istore 5, 2) := by decide +kernel
theorem dX11_rises_13 : decode cX11_rises 13 = .ok (.iload 5, 2) := by decide +kernel
theorem dX11_rises_15 : decode cX11_rises 15 = .ok (.bipush 64, 2) := by decide +kernel
theorem dX11_rises_17 : decode cX11_rises 17 = .ok (.if_icmp .ge 28, 3) := by decide +kernel
theorem dX11_rises_20 : decode cX11_rises 20 = .ok (.aload_n 0, 1) := by decide +kernel
theorem dX11_rises_21 : decode cX11_rises 21 = .ok (.getfield 7, 3) := by decide +kernel
theorem dX11_rises_24 : decode cX11_rises 24 = .ok (.iconst 4, 1) := by decide +kernel
theorem dX11_rises_25 : decode cX11_rises 25 = .ok (.iload 5, 2) := by decide +kernel
theorem dX11_rises_27 : decode cX11_rises 27 = .ok (.iadd, 1) := by decide +kernel
theorem dX11_rises_28 : decode cX11_rises 28 = .ok (.dup2, 1) := by decide +kernel
theorem dX11_rises_29 : decode cX11_rises 29 = .ok (.iaload, 1) := by decide +kernel
theorem dX11_rises_30 : decode cX11_rises 30 = .ok (.aload_n 0, 1) := by decide +kernel
theorem dX11_rises_31 : decode cX11_rises 31 = .ok (.getfield 44, 3) := by decide +kernel
theorem dX11_rises_34 : decode cX11_rises 34 = .ok (.iload 5, 2) := by decide +kernel
theorem dX11_rises_36 : decode cX11_rises 36 = .ok (.iaload, 1) := by decide +kernel
theorem dX11_rises_37 : decode cX11_rises 37 = .ok (.isub, 1) := by decide +kernel
theorem dX11_rises_38 : decode cX11_rises 38 = .ok (.iastore, 1) := by decide +kernel
theorem dX11_rises_39 : decode cX11_rises 39 = .ok (.iinc 5 1, 3) := by decide +kernel
theorem dX11_rises_42 : decode cX11_rises 42 = .ok (.goto (-29), 3) := by decide +kernel
theorem dX11_rises_45 : decode cX11_rises 45 = .ok (.aload_n 0, 1) := by decide +kernel
theorem dX11_rises_46 : decode cX11_rises 46 = .ok (.getfield 7, 3) := by decide +kernel
theorem dX11_rises_49 : decode cX11_rises 49 = .ok (.iconst 1, 1) := by decide +kernel
theorem dX11_rises_50 : decode cX11_rises 50 = .ok (.dup2, 1) := by decide +kernel
theorem dX11_rises_51 : decode cX11_rises 51 = .ok (.iaload, 1) := by decide +kernel
theorem dX11_rises_52 : decode cX11_rises 52 = .ok (.iload 4, 2) := by decide +kernel
theorem dX11_rises_54 : decode cX11_rises 54 = .ok (.iadd, 1) := by decide +kernel
theorem dX11_rises_55 : decode cX11_rises 55 = .ok (.iastore, 1) := by decide +kernel
theorem dX11_rises_56 : decode cX11_rises 56 = .ok (.iload 4, 2) := by decide +kernel
theorem dX11_rises_58 : decode cX11_rises 58 = .ok (.ireturn, 1) := by decide +kernel
theorem dX11_drifts_0 : decode cX11_drifts 0 = .ok (.aload_n 0, 1) := by decide +kernel
theorem dX11_drifts_1 : decode cX11_drifts 1 = .ok (.iload_n 1, 1) := by decide +kernel
theorem dX11_drifts_2 : decode cX11_drifts 2 = .ok (.iload_n 2, 1) := by decide +kernel
theorem dX11_drifts_3 : decode cX11_drifts 3 = .ok (.iload_n 3, 1) := by decide +kernel
theorem dX11_drifts_4 : decode cX11_drifts 4 = .ok (.iconst 2, 1) := by decide +kernel
theorem dX11_drifts_5 : decode cX11_drifts 5 = .ok (.invokevirtual 358, 3) := by decide +kernel
theorem dX11_drifts_8 : decode cX11_drifts 8 = .ok (.istore 4, 2) := by decide +kernel
theorem dX11_drifts_10 : decode cX11_drifts 10 = .ok (.iconst 0, 1) := by decide +kernel
theorem dX11_drifts_11 : decode cX11_drifts 11 = .ok (.istore 5, 2) := by decide +kernel
theorem dX11_drifts_13 : decode cX11_drifts 13 = .ok (.iload 5, 2) := by decide +kernel
theorem dX11_drifts_15 : decode cX11_drifts 15 = .ok (.bipush 64, 2) := by decide +kernel
theorem dX11_drifts_17 : decode cX11_drifts 17 = .ok (.if_icmp .ge 85, 3) := by decide +kernel
theorem dX11_drifts_20 : decode cX11_drifts 20 = .ok (.aload_n 0, 1) := by decide +kernel
theorem dX11_drifts_21 : decode cX11_drifts 21 = .ok (.getfield 7, 3) := by decide +kernel
theorem dX11_drifts_24 : decode cX11_drifts 24 = .ok (.iconst 4, 1) := by decide +kernel
theorem dX11_drifts_25 : decode cX11_drifts 25 = .ok (.iload 5, 2) := by decide +kernel
theorem dX11_drifts_27 : decode cX11_drifts 27 = .ok (.iadd, 1) := by decide +kernel
theorem dX11_drifts_28 : decode cX11_drifts 28 = .ok (.dup2, 1) := by decide +kernel
theorem dX11_drifts_29 : decode cX11_drifts 29 = .ok (.iaload, 1) := by decide +kernel
theorem dX11_drifts_30 : decode cX11_drifts 30 = .ok (.aload_n 0, 1) := by decide +kernel
theorem dX11_drifts_31 : decode cX11_drifts 31 = .ok (.getfield 44, 3) := by decide +kernel
theorem dX11_drifts_34 : decode cX11_drifts 34 = .ok (.iload 5, 2) := by decide +kernel
theorem dX11_drifts_36 : decode cX11_drifts 36 = .ok (.iaload, 1) := by decide +kernel
theorem dX11_drifts_37 : decode cX11_drifts 37 = .ok (.isub, 1) := by decide +kernel
theorem dX11_drifts_38 : decode cX11_drifts 38 = .ok (.iastore, 1) := by decide +kernel
theorem dX11_drifts_39 : decode cX11_drifts 39 = .ok (.aload_n 0, 1) := by decide +kernel
theorem dX11_drifts_40 : decode cX11_drifts 40 = .ok (.getfield 44, 3) := by decide +kernel
theorem dX11_drifts_43 : decode cX11_drifts 43 = .ok (.iload 5, 2) := by decide +kernel
theorem dX11_drifts_45 : decode cX11_drifts 45 = .ok (.iaload, 1) := by decide +kernel
theorem dX11_drifts_46 : decode cX11_drifts 46 = .ok (.ifCond .ne 6, 3) := by decide +kernel
theorem dX11_drifts_49 : decode cX11_drifts 49 = .ok (.goto 47, 3) := by decide +kernel
theorem dX11_drifts_52 : decode cX11_drifts 52 = .ok (.aload_n 0, 1) := by decide +kernel
theorem dX11_drifts_53 : decode cX11_drifts 53 = .ok (.iload 5, 2) := by decide +kernel
theorem dX11_drifts_55 : decode cX11_drifts 55 = .ok (.aload_n 0, 1) := by decide +kernel
theorem dX11_drifts_56 : decode cX11_drifts 56 = .ok (.getfield 7, 3) := by decide +kernel
theorem dX11_drifts_59 : decode cX11_drifts 59 = .ok (.bipush 82, 2) := by decide +kernel
theorem dX11_drifts_61 : decode cX11_drifts 61 = .ok (.iaload, 1) := by decide +kernel
theorem dX11_drifts_62 : decode cX11_drifts 62 = .ok (.invokevirtual 361, 3) := by decide +kernel
theorem dX11_drifts_65 : decode cX11_drifts 65 = .ok (.istore 6, 2) := by decide +kernel
theorem dX11_drifts_67 : decode cX11_drifts 67 = .ok (.aload_n 0, 1) := by decide +kernel
theorem dX11_drifts_68 : decode cX11_drifts 68 = .ok (.getfield 7, 3) := by decide +kernel
theorem dX11_drifts_71 : decode cX11_drifts 71 = .ok (.iload 6, 2) := by decide +kernel
theorem dX11_drifts_73 : decode cX11_drifts 73 = .ok (.iconst (-1), 1) := by decide +kernel
theorem dX11_drifts_74 : decode cX11_drifts 74 = .ok (.if_icmp .ne 7, 3) := by decide +kernel
theorem dX11_drifts_77 : decode cX11_drifts 77 = .ok (.iconst 1, 1) := by decide +kernel
theorem dX11_drifts_78 : decode cX11_drifts 78 = .ok (.goto 7, 3) := by decide +kernel
theorem dX11_drifts_81 : decode cX11_drifts 81 = .ok (.iconst 4, 1) := by decide +kernel
theorem dX11_drifts_82 : decode cX11_drifts 82 = .ok (.iload 6, 2) := by decide +kernel
theorem dX11_drifts_84 : decode cX11_drifts 84 = .ok (.iadd, 1) := by decide +kernel
theorem dX11_drifts_85 : decode cX11_drifts 85 = .ok (.dup2, 1) := by decide +kernel
theorem dX11_drifts_86 : decode cX11_drifts 86 = .ok (.iaload, 1) := by decide +kernel
theorem dX11_drifts_87 : decode cX11_drifts 87 = .ok (.aload_n 0, 1) := by decide +kernel
theorem dX11_drifts_88 : decode cX11_drifts 88 = .ok (.getfield 44, 3) := by decide +kernel
theorem dX11_drifts_91 : decode cX11_drifts 91 = .ok (.iload 5, 2) := by decide +kernel
theorem dX11_drifts_93 : decode cX11_drifts 93 = .ok (.iaload, 1) := by decide +kernel
theorem dX11_drifts_94 : decode cX11_drifts 94 = .ok (.iadd, 1) := by decide +kernel
theorem dX11_drifts_95 : decode cX11_drifts 95 = .ok (.iastore, 1) := by decide +kernel
theorem dX11_drifts_96 : decode cX11_drifts 96 = .ok (.iinc 5 1, 3) := by decide +kernel
theorem dX11_drifts_99 : decode cX11_drifts 99 = .ok (.goto (-86), 3) := by decide +kernel
theorem dX11_drifts_102 : decode cX11_drifts 102 = .ok (.iconst 0, 1) := by decide +kernel
theorem dX11_drifts_103 : decode cX11_drifts 103 = .ok (.istore 5, 2) := by decide +kernel
theorem dX11_drifts_105 : decode cX11_drifts 105 = .ok (.iload 5, 2) := by decide +kernel
theorem dX11_drifts_107 : decode cX11_drifts 107 = .ok (.bipush 64, 2) := by decide +kernel
theorem dX11_drifts_109 : decode cX11_drifts 109 = .ok (.if_icmp .ge 32, 3) := by decide +kernel
theorem dX11_drifts_112 : decode cX11_drifts 112 = .ok (.aload_n 0, 1) := by decide +kernel
theorem dX11_drifts_113 : decode cX11_drifts 113 = .ok (.getfield 7, 3) := by decide +kernel
theorem dX11_drifts_116 : decode cX11_drifts 116 = .ok (.iconst 4, 1) := by decide +kernel
theorem dX11_drifts_117 : decode cX11_drifts 117 = .ok (.iload 5, 2) := by decide +kernel
theorem dX11_drifts_119 : decode cX11_drifts 119 = .ok (.iadd, 1) := by decide +kernel
theorem dX11_drifts_120 : decode cX11_drifts 120 = .ok (.bipush 99, 2) := by decide +kernel
theorem dX11_drifts_122 : decode cX11_drifts 122 = .ok (.aload_n 0, 1) := by decide +kernel
theorem dX11_drifts_123 : decode cX11_drifts 123 = .ok (.getfield 7, 3) := by decide +kernel
theorem dX11_drifts_126 : decode cX11_drifts 126 = .ok (.iconst 4, 1) := by decide +kernel
theorem dX11_drifts_127 : decode cX11_drifts 127 = .ok (.iload 5, 2) := by decide +kernel
theorem dX11_drifts_129 : decode cX11_drifts 129 = .ok (.iadd, 1) := by decide +kernel
theorem dX11_drifts_130 : decode cX11_drifts 130 = .ok (.iaload, 1) := by decide +kernel
theorem dX11_drifts_131 : decode cX11_drifts 131 = .ok (.invokestatic 324, 3) := by decide +kernel
theorem dX11_drifts_134 : decode cX11_drifts 134 = .ok (.iastore, 1) := by decide +kernel
theorem dX11_drifts_135 : decode cX11_drifts 135 = .ok (.iinc 5 1, 3) := by decide +kernel
theorem dX11_drifts_138 : decode cX11_drifts 138 = .ok (.goto (-33), 3) := by decide +kernel
theorem dX11_drifts_141 : decode cX11_drifts 141 = .ok (.iload 4, 2) := by decide +kernel
theorem dX11_drifts_143 : decode cX11_drifts 143 = .ok (.ireturn, 1) := by decide +kernel
theorem dX11_vows_0 : decode cX11_vows 0 = .ok (.aload_n 0, 1) := by decide +kernel
theorem dX11_vows_1 : decode cX11_vows 1 = .ok (.iload_n 1, 1) := by decide +kernel
theorem dX11_vows_2 : decode cX11_vows 2 = .ok (.iload_n 2, 1) := by decide +kernel
theorem dX11_vows_3 : decode cX11_vows 3 = .ok (.invokevirtual 342, 3) := by decide +kernel
theorem dX11_vows_6 : decode cX11_vows 6 = .ok (.istore 4, 2) := by decide +kernel
theorem dX11_vows_8 : decode cX11_vows 8 = .ok (.iload 4, 2) := by decide +kernel
theorem dX11_vows_10 : decode cX11_vows 10 = .ok (.bipush 6, 2) := by decide +kernel
theorem dX11_vows_12 : decode cX11_vows 12 = .ok (.if_icmp .lt 13, 3) := by decide +kernel
theorem dX11_vows_15 : decode cX11_vows 15 = .ok (.aload_n 0, 1) := by decide +kernel
theorem dX11_vows_16 : decode cX11_vows 16 = .ok (.iload_n 1, 1) := by decide +kernel
theorem dX11_vows_17 : decode cX11_vows 17 = .ok (.iload_n 2, 1) := by decide +kernel
theorem dX11_vows_18 : decode cX11_vows 18 = .ok (.iload_n 3, 1) := by decide +kernel
theorem dX11_vows_19 : decode cX11_vows 19 = .ok (.invokevirtual 364, 3) := by decide +kernel
theorem dX11_vows_22 : decode cX11_vows 22 = .ok (.goto 20, 3) := by decide +kernel
theorem dX11_vows_25 : decode cX11_vows 25 = .ok (.iload 4, 2) := by decide +kernel
theorem dX11_vows_27 : decode cX11_vows 27 = .ok (.iconst 3, 1) := by decide +kernel
theorem dX11_vows_28 : decode cX11_vows 28 = .ok (.if_icmp .lt 13, 3) := by decide +kernel
theorem dX11_vows_31 : decode cX11_vows 31 = .ok (.aload_n 0, 1) := by decide +kernel
theorem dX11_vows_32 : decode cX11_vows 32 = .ok (.iload_n 1, 1) := by decide +kernel
theorem dX11_vows_33 : decode cX11_vows 33 = .ok (.iload_n 2, 1) := by decide +kernel
theorem dX11_vows_34 : decode cX11_vows 34 = .ok (.iload_n 3, 1) := by decide +kernel
theorem dX11_vows_35 : decode cX11_vows 35 = .ok (.invokevirtual 367, 3) := by decide +kernel
theorem dX11_vows_38 : decode cX11_vows 38 = .ok (.goto 4, 3) := by decide +kernel
theorem dX11_vows_41 : decode cX11_vows 41 = .ok (.iconst 0, 1) := by decide +kernel
theorem dX11_vows_42 : decode cX11_vows 42 = .ok (.istore 5, 2) := by decide +kernel
theorem dX11_vows_44 : decode cX11_vows 44 = .ok (.aload_n 0, 1) := by decide +kernel
theorem dX11_vows_45 : decode cX11_vows 45 = .ok (.iload 4, 2) := by decide +kernel
theorem dX11_vows_47 : decode cX11_vows 47 = .ok (.bipush 6, 2) := by decide +kernel
theorem dX11_vows_49 : decode cX11_vows 49 = .ok (.if_icmp .lt 7, 3) := by decide +kernel
theorem dX11_vows_52 : decode cX11_vows 52 = .ok (.iconst 0, 1) := by decide +kernel
theorem dX11_vows_53 : decode cX11_vows 53 = .ok (.goto 14, 3) := by decide +kernel
theorem dX11_vows_56 : decode cX11_vows 56 = .ok (.iload 4, 2) := by decide +kernel
theorem dX11_vows_58 : decode cX11_vows 58 = .ok (.iconst 3, 1) := by decide +kernel
theorem dX11_vows_59 : decode cX11_vows 59 = .ok (.if_icmp .lt 7, 3) := by decide +kernel
theorem dX11_vows_62 : decode cX11_vows 62 = .ok (.iconst 1, 1) := by decide +kernel
theorem dX11_vows_63 : decode cX11_vows 63 = .ok (.goto 4, 3) := by decide +kernel
theorem dX11_vows_66 : decode cX11_vows 66 = .ok (.iconst 2, 1) := by decide +kernel
theorem dX11_vows_67 : decode cX11_vows 67 = .ok (.iload_n 1, 1) := by decide +kernel
theorem dX11_vows_68 : decode cX11_vows 68 = .ok (.iload 5, 2) := by decide +kernel
theorem dX11_vows_70 : decode cX11_vows 70 = .ok (.invokevirtual 370, 3) := by decide +kernel
theorem dX11_vows_73 : decode cX11_vows 73 = .ok (.aload_n 0, 1) := by decide +kernel
theorem dX11_vows_74 : decode cX11_vows 74 = .ok (.getfield 7, 3) := by decide +kernel
theorem dX11_vows_77 : decode cX11_vows 77 = .ok (.bipush 68, 2) := by decide +kernel
theorem dX11_vows_79 : decode cX11_vows 79 = .ok (.iload_n 1, 1) := by decide +kernel
theorem dX11_vows_80 : decode cX11_vows 80 = .ok (.iadd, 1) := by decide +kernel
theorem dX11_vows_81 : decode cX11_vows 81 = .ok (.iload_n 2, 1) := by decide +kernel
theorem dX11_vows_82 : decode cX11_vows 82 = .ok (.iastore, 1) := by decide +kernel
theorem dX11_vows_83 : decode cX11_vows 83 = .ok (.aload_n 0, 1) := by decide +kernel
theorem dX11_vows_84 : decode cX11_vows 84 = .ok (.getfield 7, 3) := by decide +kernel
theorem dX11_vows_87 : decode cX11_vows 87 = .ok (.bipush 68, 2) := by decide +kernel
theorem dX11_vows_89 : decode cX11_vows 89 = .ok (.iload_n 2, 1) := by decide +kernel
theorem dX11_vows_90 : decode cX11_vows 90 = .ok (.iadd, 1) := by decide +kernel
theorem dX11_vows_91 : decode cX11_vows 91 = .ok (.iload_n 1, 1) := by decide +kernel
theorem dX11_vows_92 : decode cX11_vows 92 = .ok (.iastore, 1) := by decide +kernel
theorem dX11_vows_93 : decode cX11_vows 93 = .ok (.iload 4, 2) := by decide +kernel
theorem dX11_vows_95 : decode cX11_vows 95 = .ok (.ireturn, 1) := by decide +kernel
theorem dX11_vow_0 : decode cX11_vow 0 = .ok (.aload_n 0, 1) := by decide +kernel
theorem dX11_vow_1 : decode cX11_vow 1 = .ok (.iload_n 1, 1) := by decide +kernel
theorem dX11_vow_2 : decode cX11_vow 2 = .ok (.iload_n 2, 1) := by decide +kernel
theorem dX11_vow_3 : decode cX11_vow 3 = .ok (.iload_n 3, 1) := by decide +kernel
theorem dX11_vow_4 : decode cX11_vow 4 = .ok (.invokevirtual 374, 3) := by decide +kernel
theorem dX11_vow_7 : decode cX11_vow 7 = .ok (.ifCond .ne 5, 3) := by decide +kernel
theorem dX11_vow_10 : decode cX11_vow 10 = .ok (.iconst (-1), 1) := by decide +kernel
theorem dX11_vow_11 : decode cX11_vow 11 = .ok (.ireturn, 1) := by decide +kernel
theorem dX11_vow_12 : decode cX11_vow 12 = .ok (.aload_n 0, 1) := by decide +kernel
theorem dX11_vow_13 : decode cX11_vow 13 = .ok (.invokevirtual 377, 3) := by decide +kernel
theorem dX11_vow_16 : decode cX11_vow 16 = .ok (.aload_n 0, 1) := by decide +kernel
theorem dX11_vow_17 : decode cX11_vow 17 = .ok (.iconst 1, 1) := by decide +kernel
theorem dX11_vow_18 : decode cX11_vow 18 = .ok (.putfield 347, 3) := by decide +kernel
theorem dX11_vow_21 : decode cX11_vow 21 = .ok (.aload_n 0, 1) := by decide +kernel
theorem dX11_vow_22 : decode cX11_vow 22 = .ok (.iload_n 1, 1) := by decide +kernel
theorem dX11_vow_23 : decode cX11_vow 23 = .ok (.iload_n 2, 1) := by decide +kernel
theorem dX11_vow_24 : decode cX11_vow 24 = .ok (.iload_n 3, 1) := by decide +kernel
theorem dX11_vow_25 : decode cX11_vow 25 = .ok (.invokevirtual 380, 3) := by decide +kernel
theorem dX11_vow_28 : decode cX11_vow 28 = .ok (.ireturn, 1) := by decide +kernel
theorem dX11_part_0 : decode cX11_part 0 = .ok (.aload_n 0, 1) := by decide +kernel
theorem dX11_part_1 : decode cX11_part 1 = .ok (.iload_n 1, 1) := by decide +kernel
theorem dX11_part_2 : decode cX11_part 2 = .ok (.invokevirtual 97, 3) := by decide +kernel
theorem dX11_part_5 : decode cX11_part 5 = .ok (.ifCond .eq 29, 3) := by decide +kernel
theorem dX11_part_8 : decode cX11_part 8 = .ok (.aload_n 0, 1) := by decide +kernel
theorem dX11_part_9 : decode cX11_part 9 = .ok (.iload_n 2, 1) := by decide +kernel
theorem dX11_part_10 : decode cX11_part 10 = .ok (.invokevirtual 97, 3) := by decide +kernel
theorem dX11_part_13 : decode cX11_part 13 = .ok (.ifCond .eq 21, 3) := by decide +kernel
theorem dX11_part_16 : decode cX11_part 16 = .ok (.iload_n 1, 1) := by decide +kernel
theorem dX11_part_17 : decode cX11_part 17 = .ok (.iload_n 2, 1) := by decide +kernel
theorem dX11_part_18 : decode cX11_part 18 = .ok (.if_icmp .eq 16, 3) := by decide +kernel
theorem dX11_part_21 : decode cX11_part 21 = .ok (.aload_n 0, 1) := by decide +kernel
theorem dX11_part_22 : decode cX11_part 22 = .ok (.getfield 7, 3) := by decide +kernel
theorem dX11_part_25 : decode cX11_part 25 = .ok (.bipush 68, 2) := by decide +kernel
theorem dX11_part_27 : decode cX11_part 27 = .ok (.iload_n 1, 1) := by decide +kernel
theorem dX11_part_28 : decode cX11_part 28 = .ok (.iadd, 1) := by decide +kernel
theorem dX11_part_29 : decode cX11_part 29 = .ok (.iaload, 1) := by decide +kernel
theorem dX11_part_30 : decode cX11_part 30 = .ok (.iload_n 2, 1) := by decide +kernel
theorem dX11_part_31 : decode cX11_part 31 = .ok (.if_icmp .eq 5, 3) := by decide +kernel
theorem dX11_part_34 : decode cX11_part 34 = .ok (.iconst 0, 1) := by decide +kernel
theorem dX11_part_35 : decode cX11_part 35 = .ok (.ireturn, 1) := by decide +kernel
theorem dX11_part_36 : decode cX11_part 36 = .ok (.aload_n 0, 1) := by decide +kernel
theorem dX11_part_37 : decode cX11_part 37 = .ok (.invokevirtual 377, 3) := by decide +kernel
theorem dX11_part_40 : decode cX11_part 40 = .ok (.aload_n 0, 1) := by decide +kernel
theorem dX11_part_41 : decode cX11_part 41 = .ok (.iconst 1, 1) := by decide +kernel
theorem dX11_part_42 : decode cX11_part 42 = .ok (.putfield 347, 3) := by decide +kernel
theorem dX11_part_45 : decode cX11_part 45 = .ok (.aload_n 0, 1) := by decide +kernel
theorem dX11_part_46 : decode cX11_part 46 = .ok (.getfield 7, 3) := by decide +kernel
theorem dX11_part_49 : decode cX11_part 49 = .ok (.bipush 68, 2) := by decide +kernel
theorem dX11_part_51 : decode cX11_part 51 = .ok (.iload_n 1, 1) := by decide +kernel
theorem dX11_part_52 : decode cX11_part 52 = .ok (.iadd, 1) := by decide +kernel
theorem dX11_part_53 : decode cX11_part 53 = .ok (.iconst (-1), 1) := by decide +kernel
theorem dX11_part_54 : decode cX11_part 54 = .ok (.iastore, 1) := by decide +kernel
theorem dX11_part_55 : decode cX11_part 55 = .ok (.aload_n 0, 1) := by decide +kernel
theorem dX11_part_56 : decode cX11_part 56 = .ok (.getfield 7, 3) := by decide +kernel
theorem dX11_part_59 : decode cX11_part 59 = .ok (.bipush 68, 2) := by decide +kernel
theorem dX11_part_61 : decode cX11_part 61 = .ok (.iload_n 2, 1) := by decide +kernel
theorem dX11_part_62 : decode cX11_part 62 = .ok (.iadd, 1) := by decide +kernel
theorem dX11_part_63 : decode cX11_part 63 = .ok (.iconst (-1), 1) := by decide +kernel
theorem dX11_part_64 : decode cX11_part 64 = .ok (.iastore, 1) := by decide +kernel
theorem dX11_part_65 : decode cX11_part 65 = .ok (.aload_n 0, 1) := by decide +kernel
theorem dX11_part_66 : decode cX11_part 66 = .ok (.iconst 5, 1) := by decide +kernel
theorem dX11_part_67 : decode cX11_part 67 = .ok (.iload_n 1, 1) := by decide +kernel
theorem dX11_part_68 : decode cX11_part 68 = .ok (.iload_n 2, 1) := by decide +kernel
theorem dX11_part_69 : decode cX11_part 69 = .ok (.invokestatic 324, 3) := by decide +kernel
theorem dX11_part_72 : decode cX11_part 72 = .ok (.iconst 0, 1) := by decide +kernel
theorem dX11_part_73 : decode cX11_part 73 = .ok (.invokevirtual 370, 3) := by decide +kernel
theorem dX11_part_76 : decode cX11_part 76 = .ok (.iconst 1, 1) := by decide +kernel
theorem dX11_part_77 : decode cX11_part 77 = .ok (.ireturn, 1) := by decide +kernel
theorem dX11_sweep_0 : decode cX11_sweep 0 = .ok (.aload_n 0, 1) := by decide +kernel
theorem dX11_sweep_1 : decode cX11_sweep 1 = .ok (.iload_n 1, 1) := by decide +kernel
theorem dX11_sweep_2 : decode cX11_sweep 2 = .ok (.invokevirtual 82, 3) := by decide +kernel
theorem dX11_sweep_5 : decode cX11_sweep 5 = .ok (.ifCond .ne 5, 3) := by decide +kernel
theorem dX11_sweep_8 : decode cX11_sweep 8 = .ok (.iconst (-1), 1) := by decide +kernel
theorem dX11_sweep_9 : decode cX11_sweep 9 = .ok (.ireturn, 1) := by decide +kernel
theorem dX11_sweep_10 : decode cX11_sweep 10 = .ok (.aload_n 0, 1) := by decide +kernel
theorem dX11_sweep_11 : decode cX11_sweep 11 = .ok (.invokevirtual 377, 3) := by decide +kernel
theorem dX11_sweep_14 : decode cX11_sweep 14 = .ok (.aload_n 0, 1) := by decide +kernel
theorem dX11_sweep_15 : decode cX11_sweep 15 = .ok (.iconst 1, 1) := by decide +kernel
theorem dX11_sweep_16 : decode cX11_sweep 16 = .ok (.putfield 347, 3) := by decide +kernel
theorem dX11_sweep_19 : decode cX11_sweep 19 = .ok (.aload_n 0, 1) := by decide +kernel
theorem dX11_sweep_20 : decode cX11_sweep 20 = .ok (.getfield 7, 3) := by decide +kernel
theorem dX11_sweep_23 : decode cX11_sweep 23 = .ok (.iconst 4, 1) := by decide +kernel
theorem dX11_sweep_24 : decode cX11_sweep 24 = .ok (.iload_n 1, 1) := by decide +kernel
theorem dX11_sweep_25 : decode cX11_sweep 25 = .ok (.iadd, 1) := by decide +kernel
theorem dX11_sweep_26 : decode cX11_sweep 26 = .ok (.iaload, 1) := by decide +kernel
theorem dX11_sweep_27 : decode cX11_sweep 27 = .ok (.istore_n 2, 1) := by decide +kernel
theorem dX11_sweep_28 : decode cX11_sweep 28 = .ok (.aload_n 0, 1) := by decide +kernel
theorem dX11_sweep_29 : decode cX11_sweep 29 = .ok (.getfield 7, 3) := by decide +kernel
theorem dX11_sweep_32 : decode cX11_sweep 32 = .ok (.iconst 4, 1) := by decide +kernel
theorem dX11_sweep_33 : decode cX11_sweep 33 = .ok (.iload_n 1, 1) := by decide +kernel
theorem dX11_sweep_34 : decode cX11_sweep 34 = .ok (.iadd, 1) := by decide +kernel
theorem dX11_sweep_35 : decode cX11_sweep 35 = .ok (.iconst 0, 1) := by decide +kernel
theorem dX11_sweep_36 : decode cX11_sweep 36 = .ok (.iastore, 1) := by decide +kernel
theorem dX11_sweep_37 : decode cX11_sweep 37 = .ok (.aload_n 0, 1) := by decide +kernel
theorem dX11_sweep_38 : decode cX11_sweep 38 = .ok (.bipush 6, 2) := by decide +kernel
theorem dX11_sweep_40 : decode cX11_sweep 40 = .ok (.iload_n 1, 1) := by decide +kernel
theorem dX11_sweep_41 : decode cX11_sweep 41 = .ok (.iload_n 2, 1) := by decide +kernel
theorem dX11_sweep_42 : decode cX11_sweep 42 = .ok (.invokevirtual 370, 3) := by decide +kernel
theorem dX11_sweep_45 : decode cX11_sweep 45 = .ok (.iload_n 2, 1) := by decide +kernel
theorem dX11_sweep_46 : decode cX11_sweep 46 = .ok (.ireturn, 1) := by decide +kernel
theorem dX11_weatherOf_0 : decode cX11_weatherOf 0 = .ok (.iconst 0, 1) := by decide +kernel
theorem dX11_weatherOf_1 : decode cX11_weatherOf 1 = .ok (.istore_n 2, 1) := by decide +kernel
theorem dX11_weatherOf_2 : decode cX11_weatherOf 2 = .ok (.iconst 0, 1) := by decide +kernel
theorem dX11_weatherOf_3 : decode cX11_weatherOf 3 = .ok (.istore_n 3, 1) := by decide +kernel
theorem dX11_weatherOf_4 : decode cX11_weatherOf 4 = .ok (.iload_n 3, 1) := by decide +kernel
theorem dX11_weatherOf_5 : decode cX11_weatherOf 5 = .ok (.aload_n 0, 1) := by decide +kernel
theorem dX11_weatherOf_6 : decode cX11_weatherOf 6 = .ok (.getfield 7, 3) := by decide +kernel
theorem dX11_weatherOf_9 : decode cX11_weatherOf 9 = .ok (.bipush 88, 2) := by decide +kernel
theorem dX11_weatherOf_11 : decode cX11_weatherOf 11 = .ok (.iaload, 1) := by decide +kernel
theorem dX11_weatherOf_12 : decode cX11_weatherOf 12 = .ok (.if_icmp .ge 24, 3) := by decide +kernel
theorem dX11_weatherOf_15 : decode cX11_weatherOf 15 = .ok (.iload_n 2, 1) := by decide +kernel
theorem dX11_weatherOf_16 : decode cX11_weatherOf 16 = .ok (.aload_n 0, 1) := by decide +kernel
theorem dX11_weatherOf_17 : decode cX11_weatherOf 17 = .ok (.getfield 7, 3) := by decide +kernel
theorem dX11_weatherOf_20 : decode cX11_weatherOf 20 = .ok (.sipush 215, 3) := by decide +kernel
theorem dX11_weatherOf_23 : decode cX11_weatherOf 23 = .ok (.iconst 2, 1) := by decide +kernel
theorem dX11_weatherOf_24 : decode cX11_weatherOf 24 = .ok (.iload_n 3, 1) := by decide +kernel
theorem dX11_weatherOf_25 : decode cX11_weatherOf 25 = .ok (.imul, 1) := by decide +kernel
theorem dX11_weatherOf_26 : decode cX11_weatherOf 26 = .ok (.iadd, 1) := by decide +kernel
theorem dX11_weatherOf_27 : decode cX11_weatherOf 27 = .ok (.iaload, 1) := by decide +kernel
theorem dX11_weatherOf_28 : decode cX11_weatherOf 28 = .ok (.iadd, 1) := by decide +kernel
theorem dX11_weatherOf_29 : decode cX11_weatherOf 29 = .ok (.istore_n 2, 1) := by decide +kernel
theorem dX11_weatherOf_30 : decode cX11_weatherOf 30 = .ok (.iinc 3 1, 3) := by decide +kernel
theorem dX11_weatherOf_33 : decode cX11_weatherOf 33 = .ok (.goto (-29), 3) := by decide +kernel
theorem dX11_weatherOf_36 : decode cX11_weatherOf 36 = .ok (.iload_n 2, 1) := by decide +kernel
theorem dX11_weatherOf_37 : decode cX11_weatherOf 37 = .ok (.ifCond .ne 5, 3) := by decide +kernel
theorem dX11_weatherOf_40 : decode cX11_weatherOf 40 = .ok (.iconst 0, 1) := by decide +kernel
theorem dX11_weatherOf_41 : decode cX11_weatherOf 41 = .ok (.ireturn, 1) := by decide +kernel
theorem dX11_weatherOf_42 : decode cX11_weatherOf 42 = .ok (.iload_n 1, 1) := by decide +kernel
theorem dX11_weatherOf_43 : decode cX11_weatherOf 43 = .ok (.iload_n 2, 1) := by decide +kernel
theorem dX11_weatherOf_44 : decode cX11_weatherOf 44 = .ok (.irem, 1) := by decide +kernel
theorem dX11_weatherOf_45 : decode cX11_weatherOf 45 = .ok (.istore_n 3, 1) := by decide +kernel
theorem dX11_weatherOf_46 : decode cX11_weatherOf 46 = .ok (.iconst 0, 1) := by decide +kernel
theorem dX11_weatherOf_47 : decode cX11_weatherOf 47 = .ok (.istore 4, 2) := by decide +kernel
theorem dX11_weatherOf_49 : decode cX11_weatherOf 49 = .ok (.iload_n 3, 1) := by decide +kernel
theorem dX11_weatherOf_50 : decode cX11_weatherOf 50 = .ok (.aload_n 0, 1) := by decide +kernel
theorem dX11_weatherOf_51 : decode cX11_weatherOf 51 = .ok (.getfield 7, 3) := by decide +kernel
theorem dX11_weatherOf_54 : decode cX11_weatherOf 54 = .ok (.sipush 215, 3) := by decide +kernel
theorem dX11_weatherOf_57 : decode cX11_weatherOf 57 = .ok (.iconst 2, 1) := by decide +kernel
theorem dX11_weatherOf_58 : decode cX11_weatherOf 58 = .ok (.iload 4, 2) := by decide +kernel
theorem dX11_weatherOf_60 : decode cX11_weatherOf 60 = .ok (.imul, 1) := by decide +kernel
theorem dX11_weatherOf_61 : decode cX11_weatherOf 61 = .ok (.iadd, 1) := by decide +kernel
theorem dX11_weatherOf_62 : decode cX11_weatherOf 62 = .ok (.iaload, 1) := by decide +kernel
theorem dX11_weatherOf_63 : decode cX11_weatherOf 63 = .ok (.if_icmp .lt 25, 3) := by decide +kernel
theorem dX11_weatherOf_66 : decode cX11_weatherOf 66 = .ok (.iload_n 3, 1) := by decide +kernel
theorem dX11_weatherOf_67 : decode cX11_weatherOf 67 = .ok (.aload_n 0, 1) := by decide +kernel
theorem dX11_weatherOf_68 : decode cX11_weatherOf 68 = .ok (.getfield 7, 3) := by decide +kernel
theorem dX11_weatherOf_71 : decode cX11_weatherOf 71 = .ok (.sipush 215, 3) := by decide +kernel
theorem dX11_weatherOf_74 : decode cX11_weatherOf 74 = .ok (.iconst 2, 1) := by decide +kernel
theorem dX11_weatherOf_75 : decode cX11_weatherOf 75 = .ok (.iload 4, 2) := by decide +kernel
theorem dX11_weatherOf_77 : decode cX11_weatherOf 77 = .ok (.imul, 1) := by decide +kernel
theorem dX11_weatherOf_78 : decode cX11_weatherOf 78 = .ok (.iadd, 1) := by decide +kernel
theorem dX11_weatherOf_79 : decode cX11_weatherOf 79 = .ok (.iaload, 1) := by decide +kernel
theorem dX11_weatherOf_80 : decode cX11_weatherOf 80 = .ok (.isub, 1) := by decide +kernel
theorem dX11_weatherOf_81 : decode cX11_weatherOf 81 = .ok (.istore_n 3, 1) := by decide +kernel
theorem dX11_weatherOf_82 : decode cX11_weatherOf 82 = .ok (.iinc 4 1, 3) := by decide +kernel
theorem dX11_weatherOf_85 : decode cX11_weatherOf 85 = .ok (.goto (-36), 3) := by decide +kernel
theorem dX11_weatherOf_88 : decode cX11_weatherOf 88 = .ok (.aload_n 0, 1) := by decide +kernel
theorem dX11_weatherOf_89 : decode cX11_weatherOf 89 = .ok (.getfield 7, 3) := by decide +kernel
theorem dX11_weatherOf_92 : decode cX11_weatherOf 92 = .ok (.sipush 215, 3) := by decide +kernel
theorem dX11_weatherOf_95 : decode cX11_weatherOf 95 = .ok (.iconst 2, 1) := by decide +kernel
theorem dX11_weatherOf_96 : decode cX11_weatherOf 96 = .ok (.iload 4, 2) := by decide +kernel
theorem dX11_weatherOf_98 : decode cX11_weatherOf 98 = .ok (.imul, 1) := by decide +kernel
theorem dX11_weatherOf_99 : decode cX11_weatherOf 99 = .ok (.iadd, 1) := by decide +kernel
theorem dX11_weatherOf_100 : decode cX11_weatherOf 100 = .ok (.iconst 1, 1) := by decide +kernel
theorem dX11_weatherOf_101 : decode cX11_weatherOf 101 = .ok (.iadd, 1) := by decide +kernel
theorem dX11_weatherOf_102 : decode cX11_weatherOf 102 = .ok (.iaload, 1) := by decide +kernel
theorem dX11_weatherOf_103 : decode cX11_weatherOf 103 = .ok (.ireturn, 1) := by decide +kernel
theorem dX11_ofVow_0 : decode cX11_ofVow 0 = .ok (.aload_n 0, 1) := by decide +kernel
theorem dX11_ofVow_1 : decode cX11_ofVow 1 = .ok (.getfield 7, 3) := by decide +kernel
theorem dX11_ofVow_4 : decode cX11_ofVow 4 = .ok (.sipush 151, 3) := by decide +kernel
theorem dX11_ofVow_7 : decode cX11_ofVow 7 = .ok (.iconst 4, 1) := by decide +kernel
theorem dX11_ofVow_8 : decode cX11_ofVow 8 = .ok (.iload_n 1, 1) := by decide +kernel
theorem dX11_ofVow_9 : decode cX11_ofVow 9 = .ok (.imul, 1) := by decide +kernel
theorem dX11_ofVow_10 : decode cX11_ofVow 10 = .ok (.iadd, 1) := by decide +kernel
theorem dX11_ofVow_11 : decode cX11_ofVow 11 = .ok (.iload_n 2, 1) := by decide +kernel
theorem dX11_ofVow_12 : decode cX11_ofVow 12 = .ok (.iadd, 1) := by decide +kernel
theorem dX11_ofVow_13 : decode cX11_ofVow 13 = .ok (.iaload, 1) := by decide +kernel
theorem dX11_ofVow_14 : decode cX11_ofVow 14 = .ok (.ireturn, 1) := by decide +kernel
theorem dX11_snows_0 : decode cX11_snows 0 = .ok (.aload_n 0, 1) := by decide +kernel
theorem dX11_snows_1 : decode cX11_snows 1 = .ok (.aload_n 0, 1) := by decide +kernel
theorem dX11_snows_2 : decode cX11_snows 2 = .ok (.getfield 7, 3) := by decide +kernel
theorem dX11_snows_5 : decode cX11_snows 5 = .ok (.iconst 0, 1) := by decide +kernel
theorem dX11_snows_6 : decode cX11_snows 6 = .ok (.iaload, 1) := by decide +kernel
theorem dX11_snows_7 : decode cX11_snows 7 = .ok (.invokevirtual 383, 3) := by decide +kernel
theorem dX11_snows_10 : decode cX11_snows 10 = .ok (.istore_n 1, 1) := by decide +kernel
theorem dX11_snows_11 : decode cX11_snows 11 = .ok (.iconst 0, 1) := by decide +kernel
theorem dX11_snows_12 : decode cX11_snows 12 = .ok (.istore_n 2, 1) := by decide +kernel
theorem dX11_snows_13 : decode cX11_snows 13 = .ok (.iload_n 2, 1) := by decide +kernel
theorem dX11_snows_14 : decode cX11_snows 14 = .ok (.bipush 64, 2) := by decide +kernel
theorem dX11_snows_16 : decode cX11_snows 16 = .ok (.if_icmp .ge 40, 3) := by decide +kernel
theorem dX11_snows_19 : decode cX11_snows 19 = .ok (.aload_n 0, 1) := by decide +kernel
theorem dX11_snows_20 : decode cX11_snows 20 = .ok (.iload_n 2, 1) := by decide +kernel
theorem dX11_snows_21 : decode cX11_snows 21 = .ok (.invokevirtual 82, 3) := by decide +kernel
theorem dX11_snows_24 : decode cX11_snows 24 = .ok (.ifCond .eq 26, 3) := by decide +kernel
theorem dX11_snows_27 : decode cX11_snows 27 = .ok (.aload_n 0, 1) := by decide +kernel
theorem dX11_snows_28 : decode cX11_snows 28 = .ok (.getfield 7, 3) := by decide +kernel
theorem dX11_snows_31 : decode cX11_snows 31 = .ok (.iconst 4, 1) := by decide +kernel
theorem dX11_snows_32 : decode cX11_snows 32 = .ok (.iload_n 2, 1) := by decide +kernel
theorem dX11_snows_33 : decode cX11_snows 33 = .ok (.iadd, 1) := by decide +kernel
theorem dX11_snows_34 : decode cX11_snows 34 = .ok (.bipush 99, 2) := by decide +kernel
theorem dX11_snows_36 : decode cX11_snows 36 = .ok (.aload_n 0, 1) := by decide +kernel
theorem dX11_snows_37 : decode cX11_snows 37 = .ok (.getfield 7, 3) := by decide +kernel
theorem dX11_snows_40 : decode cX11_snows 40 = .ok (.iconst 4, 1) := by decide +kernel
theorem dX11_snows_41 : decode cX11_snows 41 = .ok (.iload_n 2, 1) := by decide +kernel
theorem dX11_snows_42 : decode cX11_snows 42 = .ok (.iadd, 1) := by decide +kernel
theorem dX11_snows_43 : decode cX11_snows 43 = .ok (.iaload, 1) := by decide +kernel
theorem dX11_snows_44 : decode cX11_snows 44 = .ok (.iload_n 1, 1) := by decide +kernel
theorem dX11_snows_45 : decode cX11_snows 45 = .ok (.iadd, 1) := by decide +kernel
theorem dX11_snows_46 : decode cX11_snows 46 = .ok (.invokestatic 324, 3) := by decide +kernel
theorem dX11_snows_49 : decode cX11_snows 49 = .ok (.iastore, 1) := by decide +kernel
theorem dX11_snows_50 : decode cX11_snows 50 = .ok (.iinc 2 1, 3) := by decide +kernel
theorem dX11_snows_53 : decode cX11_snows 53 = .ok (.goto (-40), 3) := by decide +kernel
theorem dX11_snows_56 : decode cX11_snows 56 = .ok (.return_, 1) := by decide +kernel
theorem dX11_vowsOfDay_0 : decode cX11_vowsOfDay 0 = .ok (.iconst 0, 1) := by decide +kernel
theorem dX11_vowsOfDay_1 : decode cX11_vowsOfDay 1 = .ok (.istore_n 1, 1) := by decide +kernel
theorem dX11_vowsOfDay_2 : decode cX11_vowsOfDay 2 = .ok (.iconst 0, 1) := by decide +kernel
theorem dX11_vowsOfDay_3 : decode cX11_vowsOfDay 3 = .ok (.istore_n 2, 1) := by decide +kernel
theorem dX11_vowsOfDay_4 : decode cX11_vowsOfDay 4 = .ok (.iload_n 2, 1) := by decide +kernel
theorem dX11_vowsOfDay_5 : decode cX11_vowsOfDay 5 = .ok (.aload_n 0, 1) := by decide +kernel
theorem dX11_vowsOfDay_6 : decode cX11_vowsOfDay 6 = .ok (.getfield 7, 3) := by decide +kernel
theorem dX11_vowsOfDay_9 : decode cX11_vowsOfDay 9 = .ok (.bipush 87, 2) := by decide +kernel
theorem dX11_vowsOfDay_11 : decode cX11_vowsOfDay 11 = .ok (.iaload, 1) := by decide +kernel
theorem dX11_vowsOfDay_12 : decode cX11_vowsOfDay 12 = .ok (.if_icmp .ge 108, 3) := by decide +kernel
theorem dX11_vowsOfDay_15 : decode cX11_vowsOfDay 15 = .ok (.aload_n 0, 1) := by decide +kernel
theorem dX11_vowsOfDay_16 : decode cX11_vowsOfDay 16 = .ok (.iload_n 2, 1) := by decide +kernel
theorem dX11_vowsOfDay_17 : decode cX11_vowsOfDay 17 = .ok (.iconst 0, 1) := by decide +kernel
theorem dX11_vowsOfDay_18 : decode cX11_vowsOfDay 18 = .ok (.invokevirtual 386, 3) := by decide +kernel
theorem dX11_vowsOfDay_21 : decode cX11_vowsOfDay 21 = .ok (.aload_n 0, 1) := by decide +kernel
theorem dX11_vowsOfDay_22 : decode cX11_vowsOfDay 22 = .ok (.getfield 7, 3) := by decide +kernel
theorem dX11_vowsOfDay_25 : decode cX11_vowsOfDay 25 = .ok (.iconst 0, 1) := by decide +kernel
theorem dX11_vowsOfDay_26 : decode cX11_vowsOfDay 26 = .ok (.iaload, 1) := by decide +kernel
theorem dX11_vowsOfDay_27 : decode cX11_vowsOfDay 27 = .ok (.if_icmp .eq 6, 3) := by decide +kernel
theorem dX11_vowsOfDay_30 : decode cX11_vowsOfDay 30 = .ok (.goto 84, 3) := by decide +kernel
theorem dX11_vowsOfDay_33 : decode cX11_vowsOfDay 33 = .ok (.aload_n 0, 1) := by decide +kernel
theorem dX11_vowsOfDay_34 : decode cX11_vowsOfDay 34 = .ok (.aload_n 0, 1) := by decide +kernel
theorem dX11_vowsOfDay_35 : decode cX11_vowsOfDay 35 = .ok (.iload_n 2, 1) := by decide +kernel
theorem dX11_vowsOfDay_36 : decode cX11_vowsOfDay 36 = .ok (.iconst 1, 1) := by decide +kernel
theorem dX11_vowsOfDay_37 : decode cX11_vowsOfDay 37 = .ok (.invokevirtual 386, 3) := by decide +kernel
theorem dX11_vowsOfDay_40 : decode cX11_vowsOfDay 40 = .ok (.aload_n 0, 1) := by decide +kernel
theorem dX11_vowsOfDay_41 : decode cX11_vowsOfDay 41 = .ok (.iload_n 2, 1) := by decide +kernel
theorem dX11_vowsOfDay_42 : decode cX11_vowsOfDay 42 = .ok (.iconst 2, 1) := by decide +kernel
theorem dX11_vowsOfDay_43 : decode cX11_vowsOfDay 43 = .ok (.invokevirtual 386, 3) := by decide +kernel
theorem dX11_vowsOfDay_46 : decode cX11_vowsOfDay 46 = .ok (.aload_n 0, 1) := by decide +kernel
theorem dX11_vowsOfDay_47 : decode cX11_vowsOfDay 47 = .ok (.iload_n 2, 1) := by decide +kernel
theorem dX11_vowsOfDay_48 : decode cX11_vowsOfDay 48 = .ok (.iconst 3, 1) := by decide +kernel
theorem dX11_vowsOfDay_49 : decode cX11_vowsOfDay 49 = .ok (.invokevirtual 386, 3) := by decide +kernel
theorem dX11_vowsOfDay_52 : decode cX11_vowsOfDay 52 = .ok (.invokevirtual 374, 3) := by decide +kernel
theorem dX11_vowsOfDay_55 : decode cX11_vowsOfDay 55 = .ok (.ifCond .eq 32, 3) := by decide +kernel
theorem dX11_vowsOfDay_58 : decode cX11_vowsOfDay 58 = .ok (.aload_n 0, 1) := by decide +kernel
theorem dX11_vowsOfDay_59 : decode cX11_vowsOfDay 59 = .ok (.aload_n 0, 1) := by decide +kernel
theorem dX11_vowsOfDay_60 : decode cX11_vowsOfDay 60 = .ok (.iload_n 2, 1) := by decide +kernel
theorem dX11_vowsOfDay_61 : decode cX11_vowsOfDay 61 = .ok (.iconst 1, 1) := by decide +kernel
theorem dX11_vowsOfDay_62 : decode cX11_vowsOfDay 62 = .ok (.invokevirtual 386, 3) := by decide +kernel
theorem dX11_vowsOfDay_65 : decode cX11_vowsOfDay 65 = .ok (.aload_n 0, 1) := by decide +kernel
theorem dX11_vowsOfDay_66 : decode cX11_vowsOfDay 66 = .ok (.iload_n 2, 1) := by decide +kernel
theorem dX11_vowsOfDay_67 : decode cX11_vowsOfDay 67 = .ok (.iconst 2, 1) := by decide +kernel
theorem dX11_vowsOfDay_68 : decode cX11_vowsOfDay 68 = .ok (.invokevirtual 386, 3) := by decide +kernel
theorem dX11_vowsOfDay_71 : decode cX11_vowsOfDay 71 = .ok (.aload_n 0, 1) := by decide +kernel
theorem dX11_vowsOfDay_72 : decode cX11_vowsOfDay 72 = .ok (.iload_n 2, 1) := by decide +kernel
theorem dX11_vowsOfDay_73 : decode cX11_vowsOfDay 73 = .ok (.iconst 3, 1) := by decide +kernel
theorem dX11_vowsOfDay_74 : decode cX11_vowsOfDay 74 = .ok (.invokevirtual 386, 3) := by decide +kernel
theorem dX11_vowsOfDay_77 : decode cX11_vowsOfDay 77 = .ok (.invokevirtual 380, 3) := by decide +kernel
theorem dX11_vowsOfDay_80 : decode cX11_vowsOfDay 80 = .ok (.pop, 1) := by decide +kernel
theorem dX11_vowsOfDay_81 : decode cX11_vowsOfDay 81 = .ok (.iinc 1 1, 3) := by decide +kernel
theorem dX11_vowsOfDay_84 : decode cX11_vowsOfDay 84 = .ok (.goto 30, 3) := by decide +kernel
theorem dX11_vowsOfDay_87 : decode cX11_vowsOfDay 87 = .ok (.aload_n 0, 1) := by decide +kernel
theorem dX11_vowsOfDay_88 : decode cX11_vowsOfDay 88 = .ok (.iconst 3, 1) := by decide +kernel
theorem dX11_vowsOfDay_89 : decode cX11_vowsOfDay 89 = .ok (.iload_n 2, 1) := by decide +kernel
theorem dX11_vowsOfDay_90 : decode cX11_vowsOfDay 90 = .ok (.iconst 0, 1) := by decide +kernel
theorem dX11_vowsOfDay_91 : decode cX11_vowsOfDay 91 = .ok (.invokevirtual 370, 3) := by decide +kernel
theorem dX11_vowsOfDay_94 : decode cX11_vowsOfDay 94 = .ok (.aload_n 0, 1) := by decide +kernel
theorem dX11_vowsOfDay_95 : decode cX11_vowsOfDay 95 = .ok (.aload_n 0, 1) := by decide +kernel
theorem dX11_vowsOfDay_96 : decode cX11_vowsOfDay 96 = .ok (.getfield 389, 3) := by decide +kernel
theorem dX11_vowsOfDay_99 : decode cX11_vowsOfDay 99 = .ok (.iconst (-1), 1) := by decide +kernel
theorem dX11_vowsOfDay_100 : decode cX11_vowsOfDay 100 = .ok (.if_icmp .ne 7, 3) := by decide +kernel
theorem dX11_vowsOfDay_103 : decode cX11_vowsOfDay 103 = .ok (.iload_n 2, 1) := by decide +kernel
theorem dX11_vowsOfDay_104 : decode cX11_vowsOfDay 104 = .ok (.goto 7, 3) := by decide +kernel
theorem dX11_vowsOfDay_107 : decode cX11_vowsOfDay 107 = .ok (.aload_n 0, 1) := by decide +kernel
theorem dX11_vowsOfDay_108 : decode cX11_vowsOfDay 108 = .ok (.getfield 389, 3) := by decide +kernel
theorem dX11_vowsOfDay_111 : decode cX11_vowsOfDay 111 = .ok (.putfield 389, 3) := by decide +kernel
theorem dX11_vowsOfDay_114 : decode cX11_vowsOfDay 114 = .ok (.iinc 2 1, 3) := by decide +kernel
theorem dX11_vowsOfDay_117 : decode cX11_vowsOfDay 117 = .ok (.goto (-113), 3) := by decide +kernel
theorem dX11_vowsOfDay_120 : decode cX11_vowsOfDay 120 = .ok (.iload_n 1, 1) := by decide +kernel
theorem dX11_vowsOfDay_121 : decode cX11_vowsOfDay 121 = .ok (.ireturn, 1) := by decide +kernel
theorem dX11_slides_0 : decode cX11_slides 0 = .ok (.iconst 0, 1) := by decide +kernel
theorem dX11_slides_1 : decode cX11_slides 1 = .ok (.istore_n 1, 1) := by decide +kernel
theorem dX11_slides_2 : decode cX11_slides 2 = .ok (.iload_n 1, 1) := by decide +kernel
theorem dX11_slides_3 : decode cX11_slides 3 = .ok (.bipush 64, 2) := by decide +kernel
theorem dX11_slides_5 : decode cX11_slides 5 = .ok (.if_icmp .ge 137, 3) := by decide +kernel
theorem dX11_slides_8 : decode cX11_slides 8 = .ok (.aload_n 0, 1) := by decide +kernel
theorem dX11_slides_9 : decode cX11_slides 9 = .ok (.getfield 347, 3) := by decide +kernel
theorem dX11_slides_12 : decode cX11_slides 12 = .ok (.ifCond .eq 130, 3) := by decide +kernel
theorem dX11_slides_15 : decode cX11_slides 15 = .ok (.aload_n 0, 1) := by decide +kernel
theorem dX11_slides_16 : decode cX11_slides 16 = .ok (.getfield 7, 3) := by decide +kernel
theorem dX11_slides_19 : decode cX11_slides 19 = .ok (.bipush 84, 2) := by decide +kernel
theorem dX11_slides_21 : decode cX11_slides 21 = .ok (.iaload, 1) := by decide +kernel
theorem dX11_slides_22 : decode cX11_slides 22 = .ok (.ifCond .le 120, 3) := by decide +kernel
theorem dX11_slides_25 : decode cX11_slides 25 = .ok (.aload_n 0, 1) := by decide +kernel
theorem dX11_slides_26 : decode cX11_slides 26 = .ok (.iload_n 1, 1) := by decide +kernel
theorem dX11_slides_27 : decode cX11_slides 27 = .ok (.invokevirtual 82, 3) := by decide +kernel
theorem dX11_slides_30 : decode cX11_slides 30 = .ok (.ifCond .eq 106, 3) := by decide +kernel
theorem dX11_slides_33 : decode cX11_slides 33 = .ok (.aload_n 0, 1) := by decide +kernel
theorem dX11_slides_34 : decode cX11_slides 34 = .ok (.getfield 7, 3) := by decide +kernel
theorem dX11_slides_37 : decode cX11_slides 37 = .ok (.iconst 4, 1) := by decide +kernel
theorem dX11_slides_38 : decode cX11_slides 38 = .ok (.iload_n 1, 1) := by decide +kernel
theorem dX11_slides_39 : decode cX11_slides 39 = .ok (.iadd, 1) := by decide +kernel
theorem dX11_slides_40 : decode cX11_slides 40 = .ok (.iaload, 1) := by decide +kernel
theorem dX11_slides_41 : decode cX11_slides 41 = .ok (.aload_n 0, 1) := by decide +kernel
theorem dX11_slides_42 : decode cX11_slides 42 = .ok (.getfield 7, 3) := by decide +kernel
theorem dX11_slides_45 : decode cX11_slides 45 = .ok (.bipush 83, 2) := by decide +kernel
theorem dX11_slides_47 : decode cX11_slides 47 = .ok (.iaload, 1) := by decide +kernel
theorem dX11_slides_48 : decode cX11_slides 48 = .ok (.if_icmp .lt 88, 3) := by decide +kernel
theorem dX11_slides_51 : decode cX11_slides 51 = .ok (.aload_n 0, 1) := by decide +kernel
theorem dX11_slides_52 : decode cX11_slides 52 = .ok (.sipush 1000, 3) := by decide +kernel
theorem dX11_slides_55 : decode cX11_slides 55 = .ok (.invokevirtual 392, 3) := by decide +kernel
theorem dX11_slides_58 : decode cX11_slides 58 = .ok (.aload_n 0, 1) := by decide +kernel
theorem dX11_slides_59 : decode cX11_slides 59 = .ok (.getfield 7, 3) := by decide +kernel
theorem dX11_slides_62 : decode cX11_slides 62 = .ok (.bipush 84, 2) := by decide +kernel
theorem dX11_slides_64 : decode cX11_slides 64 = .ok (.iaload, 1) := by decide +kernel
theorem dX11_slides_65 : decode cX11_slides 65 = .ok (.if_icmp .lt 6, 3) := by decide +kernel
theorem dX11_slides_68 : decode cX11_slides 68 = .ok (.goto 68, 3) := by decide +kernel
theorem dX11_slides_71 : decode cX11_slides 71 = .ok (.aload_n 0, 1) := by decide +kernel
theorem dX11_slides_72 : decode cX11_slides 72 = .ok (.getfield 7, 3) := by decide +kernel
theorem dX11_slides_75 : decode cX11_slides 75 = .ok (.iconst 4, 1) := by decide +kernel
theorem dX11_slides_76 : decode cX11_slides 76 = .ok (.iload_n 1, 1) := by decide +kernel
theorem dX11_slides_77 : decode cX11_slides 77 = .ok (.iadd, 1) := by decide +kernel
theorem dX11_slides_78 : decode cX11_slides 78 = .ok (.iaload, 1) := by decide +kernel
theorem dX11_slides_79 : decode cX11_slides 79 = .ok (.iconst 2, 1) := by decide +kernel
theorem dX11_slides_80 : decode cX11_slides 80 = .ok (.idiv, 1) := by decide +kernel
theorem dX11_slides_81 : decode cX11_slides 81 = .ok (.istore_n 2, 1) := by decide +kernel
theorem dX11_slides_82 : decode cX11_slides 82 = .ok (.aload_n 0, 1) := by decide +kernel
theorem dX11_slides_83 : decode cX11_slides 83 = .ok (.iload_n 1, 1) := by decide +kernel
theorem dX11_slides_84 : decode cX11_slides 84 = .ok (.iconst 2, 1) := by decide +kernel
theorem dX11_slides_85 : decode cX11_slides 85 = .ok (.invokevirtual 361, 3) := by decide +kernel
theorem dX11_slides_88 : decode cX11_slides 88 = .ok (.istore_n 3, 1) := by decide +kernel
theorem dX11_slides_89 : decode cX11_slides 89 = .ok (.aload_n 0, 1) := by decide +kernel
theorem dX11_slides_90 : decode cX11_slides 90 = .ok (.getfield 7, 3) := by decide +kernel
theorem dX11_slides_93 : decode cX11_slides 93 = .ok (.iconst 4, 1) := by decide +kernel
theorem dX11_slides_94 : decode cX11_slides 94 = .ok (.iload_n 1, 1) := by decide +kernel
theorem dX11_slides_95 : decode cX11_slides 95 = .ok (.iadd, 1) := by decide +kernel
theorem dX11_slides_96 : decode cX11_slides 96 = .ok (.dup2, 1) := by decide +kernel
theorem dX11_slides_97 : decode cX11_slides 97 = .ok (.iaload, 1) := by decide +kernel
theorem dX11_slides_98 : decode cX11_slides 98 = .ok (.iload_n 2, 1) := by decide +kernel
theorem dX11_slides_99 : decode cX11_slides 99 = .ok (.isub, 1) := by decide +kernel
theorem dX11_slides_100 : decode cX11_slides 100 = .ok (.iastore, 1) := by decide +kernel
theorem dX11_slides_101 : decode cX11_slides 101 = .ok (.iload_n 3, 1) := by decide +kernel
theorem dX11_slides_102 : decode cX11_slides 102 = .ok (.iconst (-1), 1) := by decide +kernel
theorem dX11_slides_103 : decode cX11_slides 103 = .ok (.if_icmp .eq 26, 3) := by decide +kernel
theorem dX11_slides_106 : decode cX11_slides 106 = .ok (.aload_n 0, 1) := by decide +kernel
theorem dX11_slides_107 : decode cX11_slides 107 = .ok (.getfield 7, 3) := by decide +kernel
theorem dX11_slides_110 : decode cX11_slides 110 = .ok (.iconst 4, 1) := by decide +kernel
theorem dX11_slides_111 : decode cX11_slides 111 = .ok (.iload_n 3, 1) := by decide +kernel
theorem dX11_slides_112 : decode cX11_slides 112 = .ok (.iadd, 1) := by decide +kernel
theorem dX11_slides_113 : decode cX11_slides 113 = .ok (.bipush 99, 2) := by decide +kernel
theorem dX11_slides_115 : decode cX11_slides 115 = .ok (.aload_n 0, 1) := by decide +kernel
theorem dX11_slides_116 : decode cX11_slides 116 = .ok (.getfield 7, 3) := by decide +kernel
theorem dX11_slides_119 : decode cX11_slides 119 = .ok (.iconst 4, 1) := by decide +kernel
theorem dX11_slides_120 : decode cX11_slides 120 = .ok (.iload_n 3, 1) := by decide +kernel
theorem dX11_slides_121 : decode cX11_slides 121 = .ok (.iadd, 1) := by decide +kernel
theorem dX11_slides_122 : decode cX11_slides 122 = .ok (.iaload, 1) := by decide +kernel
theorem dX11_slides_123 : decode cX11_slides 123 = .ok (.iload_n 2, 1) := by decide +kernel
theorem dX11_slides_124 : decode cX11_slides 124 = .ok (.iadd, 1) := by decide +kernel
theorem dX11_slides_125 : decode cX11_slides 125 = .ok (.invokestatic 324, 3) := by decide +kernel
theorem dX11_slides_128 : decode cX11_slides 128 = .ok (.iastore, 1) := by decide +kernel
theorem dX11_slides_129 : decode cX11_slides 129 = .ok (.aload_n 0, 1) := by decide +kernel
theorem dX11_slides_130 : decode cX11_slides 130 = .ok (.iconst 4, 1) := by decide +kernel
theorem dX11_slides_131 : decode cX11_slides 131 = .ok (.iload_n 1, 1) := by decide +kernel
theorem dX11_slides_132 : decode cX11_slides 132 = .ok (.iload_n 2, 1) := by decide +kernel
theorem dX11_slides_133 : decode cX11_slides 133 = .ok (.invokevirtual 370, 3) := by decide +kernel
theorem dX11_slides_136 : decode cX11_slides 136 = .ok (.iinc 1 1, 3) := by decide +kernel
theorem dX11_slides_139 : decode cX11_slides 139 = .ok (.goto (-137), 3) := by decide +kernel
theorem dX11_slides_142 : decode cX11_slides 142 = .ok (.return_, 1) := by decide +kernel
theorem dX11_aDay_0 : decode cX11_aDay 0 = .ok (.aload_n 0, 1) := by decide +kernel
theorem dX11_aDay_1 : decode cX11_aDay 1 = .ok (.invokevirtual 395, 3) := by decide +kernel
theorem dX11_aDay_4 : decode cX11_aDay 4 = .ok (.aload_n 0, 1) := by decide +kernel
theorem dX11_aDay_5 : decode cX11_aDay 5 = .ok (.invokevirtual 398, 3) := by decide +kernel
theorem dX11_aDay_8 : decode cX11_aDay 8 = .ok (.istore_n 1, 1) := by decide +kernel
theorem dX11_aDay_9 : decode cX11_aDay 9 = .ok (.aload_n 0, 1) := by decide +kernel
theorem dX11_aDay_10 : decode cX11_aDay 10 = .ok (.invokevirtual 401, 3) := by decide +kernel
theorem dX11_aDay_13 : decode cX11_aDay 13 = .ok (.iconst 0, 1) := by decide +kernel
theorem dX11_aDay_14 : decode cX11_aDay 14 = .ok (.istore_n 2, 1) := by decide +kernel
theorem dX11_aDay_15 : decode cX11_aDay 15 = .ok (.iload_n 2, 1) := by decide +kernel
theorem dX11_aDay_16 : decode cX11_aDay 16 = .ok (.bipush 64, 2) := by decide +kernel
theorem dX11_aDay_18 : decode cX11_aDay 18 = .ok (.if_icmp .ge 43, 3) := by decide +kernel
theorem dX11_aDay_21 : decode cX11_aDay 21 = .ok (.aload_n 0, 1) := by decide +kernel
theorem dX11_aDay_22 : decode cX11_aDay 22 = .ok (.iload_n 2, 1) := by decide +kernel
theorem dX11_aDay_23 : decode cX11_aDay 23 = .ok (.invokevirtual 82, 3) := by decide +kernel
theorem dX11_aDay_26 : decode cX11_aDay 26 = .ok (.ifCond .eq 29, 3) := by decide +kernel
theorem dX11_aDay_29 : decode cX11_aDay 29 = .ok (.aload_n 0, 1) := by decide +kernel
theorem dX11_aDay_30 : decode cX11_aDay 30 = .ok (.getfield 7, 3) := by decide +kernel
theorem dX11_aDay_33 : decode cX11_aDay 33 = .ok (.iconst 4, 1) := by decide +kernel
theorem dX11_aDay_34 : decode cX11_aDay 34 = .ok (.iload_n 2, 1) := by decide +kernel
theorem dX11_aDay_35 : decode cX11_aDay 35 = .ok (.iadd, 1) := by decide +kernel
theorem dX11_aDay_36 : decode cX11_aDay 36 = .ok (.iconst 0, 1) := by decide +kernel
theorem dX11_aDay_37 : decode cX11_aDay 37 = .ok (.aload_n 0, 1) := by decide +kernel
theorem dX11_aDay_38 : decode cX11_aDay 38 = .ok (.getfield 7, 3) := by decide +kernel
theorem dX11_aDay_41 : decode cX11_aDay 41 = .ok (.iconst 4, 1) := by decide +kernel
theorem dX11_aDay_42 : decode cX11_aDay 42 = .ok (.iload_n 2, 1) := by decide +kernel
theorem dX11_aDay_43 : decode cX11_aDay 43 = .ok (.iadd, 1) := by decide +kernel
theorem dX11_aDay_44 : decode cX11_aDay 44 = .ok (.iaload, 1) := by decide +kernel
theorem dX11_aDay_45 : decode cX11_aDay 45 = .ok (.aload_n 0, 1) := by decide +kernel
theorem dX11_aDay_46 : decode cX11_aDay 46 = .ok (.iload_n 2, 1) := by decide +kernel
theorem dX11_aDay_47 : decode cX11_aDay 47 = .ok (.invokevirtual 404, 3) := by decide +kernel
theorem dX11_aDay_50 : decode cX11_aDay 50 = .ok (.isub, 1) := by decide +kernel
theorem dX11_aDay_51 : decode cX11_aDay 51 = .ok (.invokestatic 327, 3) := by decide +kernel
theorem dX11_aDay_54 : decode cX11_aDay 54 = .ok (.iastore, 1) := by decide +kernel
theorem dX11_aDay_55 : decode cX11_aDay 55 = .ok (.iinc 2 1, 3) := by decide +kernel
theorem dX11_aDay_58 : decode cX11_aDay 58 = .ok (.goto (-43), 3) := by decide +kernel
theorem dX11_aDay_61 : decode cX11_aDay 61 = .ok (.aload_n 0, 1) := by decide +kernel
theorem dX11_aDay_62 : decode cX11_aDay 62 = .ok (.getfield 7, 3) := by decide +kernel
theorem dX11_aDay_65 : decode cX11_aDay 65 = .ok (.iconst 0, 1) := by decide +kernel
theorem dX11_aDay_66 : decode cX11_aDay 66 = .ok (.dup2, 1) := by decide +kernel
theorem dX11_aDay_67 : decode cX11_aDay 67 = .ok (.iaload, 1) := by decide +kernel
theorem dX11_aDay_68 : decode cX11_aDay 68 = .ok (.iconst 1, 1) := by decide +kernel
theorem dX11_aDay_69 : decode cX11_aDay 69 = .ok (.iadd, 1) := by decide +kernel
theorem dX11_aDay_70 : decode cX11_aDay 70 = .ok (.iastore, 1) := by decide +kernel
theorem dX11_aDay_71 : decode cX11_aDay 71 = .ok (.iload_n 1, 1) := by decide +kernel
theorem dX11_aDay_72 : decode cX11_aDay 72 = .ok (.ireturn, 1) := by decide +kernel
theorem dX11_days_0 : decode cX11_days 0 = .ok (.iload_n 1, 1) := by decide +kernel
theorem dX11_days_1 : decode cX11_days 1 = .ok (.iconst 1, 1) := by decide +kernel
theorem dX11_days_2 : decode cX11_days 2 = .ok (.bipush 60, 2) := by decide +kernel
theorem dX11_days_4 : decode cX11_days 4 = .ok (.invokestatic 89, 3) := by decide +kernel
theorem dX11_days_7 : decode cX11_days 7 = .ok (.ifCond .eq 17, 3) := by decide +kernel
theorem dX11_days_10 : decode cX11_days 10 = .ok (.aload_n 0, 1) := by decide +kernel
theorem dX11_days_11 : decode cX11_days 11 = .ok (.getfield 7, 3) := by decide +kernel
theorem dX11_days_14 : decode cX11_days 14 = .ok (.iconst 0, 1) := by decide +kernel
theorem dX11_days_15 : decode cX11_days 15 = .ok (.iaload, 1) := by decide +kernel
theorem dX11_days_16 : decode cX11_days 16 = .ok (.iload_n 1, 1) := by decide +kernel
theorem dX11_days_17 : decode cX11_days 17 = .ok (.iadd, 1) := by decide +kernel
theorem dX11_days_18 : decode cX11_days 18 = .ok (.sipush 9999, 3) := by decide +kernel
theorem dX11_days_21 : decode cX11_days 21 = .ok (.if_icmp .le 5, 3) := by decide +kernel
theorem dX11_days_24 : decode cX11_days 24 = .ok (.iconst (-1), 1) := by decide +kernel
theorem dX11_days_25 : decode cX11_days 25 = .ok (.ireturn, 1) := by decide +kernel
theorem dX11_days_26 : decode cX11_days 26 = .ok (.iconst 0, 1) := by decide +kernel
theorem dX11_days_27 : decode cX11_days 27 = .ok (.istore_n 2, 1) := by decide +kernel
theorem dX11_days_28 : decode cX11_days 28 = .ok (.aload_n 0, 1) := by decide +kernel
theorem dX11_days_29 : decode cX11_days 29 = .ok (.iconst 1, 1) := by decide +kernel
theorem dX11_days_30 : decode cX11_days 30 = .ok (.putfield 347, 3) := by decide +kernel
theorem dX11_days_33 : decode cX11_days 33 = .ok (.iconst 0, 1) := by decide +kernel
theorem dX11_days_34 : decode cX11_days 34 = .ok (.istore_n 3, 1) := by decide +kernel
theorem dX11_days_35 : decode cX11_days 35 = .ok (.iload_n 3, 1) := by decide +kernel
theorem dX11_days_36 : decode cX11_days 36 = .ok (.iload_n 1, 1) := by decide +kernel
theorem dX11_days_37 : decode cX11_days 37 = .ok (.if_icmp .ge 20, 3) := by decide +kernel
theorem dX11_days_40 : decode cX11_days 40 = .ok (.aload_n 0, 1) := by decide +kernel
theorem dX11_days_41 : decode cX11_days 41 = .ok (.invokevirtual 377, 3) := by decide +kernel
theorem dX11_days_44 : decode cX11_days 44 = .ok (.iload_n 2, 1) := by decide +kernel
theorem dX11_days_45 : decode cX11_days 45 = .ok (.aload_n 0, 1) := by decide +kernel
theorem dX11_days_46 : decode cX11_days 46 = .ok (.invokevirtual 407, 3) := by decide +kernel
theorem dX11_days_49 : decode cX11_days 49 = .ok (.iadd, 1) := by decide +kernel
theorem dX11_days_50 : decode cX11_days 50 = .ok (.istore_n 2, 1) := by decide +kernel
theorem dX11_days_51 : decode cX11_days 51 = .ok (.iinc 3 1, 3) := by decide +kernel
theorem dX11_days_54 : decode cX11_days 54 = .ok (.goto (-19), 3) := by decide +kernel
theorem dX11_days_57 : decode cX11_days 57 = .ok (.iload_n 2, 1) := by decide +kernel
theorem dX11_days_58 : decode cX11_days 58 = .ok (.ireturn, 1) := by decide +kernel
theorem dX11_of_0 : decode cX11_of 0 = .ok (.aload_n 0, 1) := by decide +kernel
theorem dX11_of_1 : decode cX11_of 1 = .ok (.iload_n 1, 1) := by decide +kernel
theorem dX11_of_2 : decode cX11_of 2 = .ok (.invokevirtual 97, 3) := by decide +kernel
theorem dX11_of_5 : decode cX11_of 5 = .ok (.ifCond .ne 6, 3) := by decide +kernel
theorem dX11_of_8 : decode cX11_of 8 = .ok (.bipush (-2), 2) := by decide +kernel
theorem dX11_of_10 : decode cX11_of 10 = .ok (.ireturn, 1) := by decide +kernel
theorem dX11_of_11 : decode cX11_of 11 = .ok (.iload_n 2, 1) := by decide +kernel
theorem dX11_of_12 : decode cX11_of 12 = .ok (.tableswitch 101 0 5 #[40, 50, 60, 70, 80, 90], 40) := by decide +kernel
theorem dX11_of_52 : decode cX11_of 52 = .ok (.aload_n 0, 1) := by decide +kernel
theorem dX11_of_53 : decode cX11_of 53 = .ok (.getfield 7, 3) := by decide +kernel
theorem dX11_of_56 : decode cX11_of 56 = .ok (.bipush 91, 2) := by decide +kernel
theorem dX11_of_58 : decode cX11_of 58 = .ok (.iload_n 1, 1) := by decide +kernel
theorem dX11_of_59 : decode cX11_of 59 = .ok (.iadd, 1) := by decide +kernel
theorem dX11_of_60 : decode cX11_of 60 = .ok (.iaload, 1) := by decide +kernel
theorem dX11_of_61 : decode cX11_of 61 = .ok (.ireturn, 1) := by decide +kernel
theorem dX11_of_62 : decode cX11_of 62 = .ok (.aload_n 0, 1) := by decide +kernel
theorem dX11_of_63 : decode cX11_of 63 = .ok (.getfield 7, 3) := by decide +kernel
theorem dX11_of_66 : decode cX11_of 66 = .ok (.bipush 103, 2) := by decide +kernel
theorem dX11_of_68 : decode cX11_of 68 = .ok (.iload_n 1, 1) := by decide +kernel
theorem dX11_of_69 : decode cX11_of 69 = .ok (.iadd, 1) := by decide +kernel
theorem dX11_of_70 : decode cX11_of 70 = .ok (.iaload, 1) := by decide +kernel
theorem dX11_of_71 : decode cX11_of 71 = .ok (.ireturn, 1) := by decide +kernel
theorem dX11_of_72 : decode cX11_of 72 = .ok (.aload_n 0, 1) := by decide +kernel
theorem dX11_of_73 : decode cX11_of 73 = .ok (.getfield 7, 3) := by decide +kernel
theorem dX11_of_76 : decode cX11_of 76 = .ok (.bipush 115, 2) := by decide +kernel
theorem dX11_of_78 : decode cX11_of 78 = .ok (.iload_n 1, 1) := by decide +kernel
theorem dX11_of_79 : decode cX11_of 79 = .ok (.iadd, 1) := by decide +kernel
theorem dX11_of_80 : decode cX11_of 80 = .ok (.iaload, 1) := by decide +kernel
theorem dX11_of_81 : decode cX11_of 81 = .ok (.ireturn, 1) := by decide +kernel
theorem dX11_of_82 : decode cX11_of 82 = .ok (.aload_n 0, 1) := by decide +kernel
theorem dX11_of_83 : decode cX11_of 83 = .ok (.getfield 7, 3) := by decide +kernel
theorem dX11_of_86 : decode cX11_of 86 = .ok (.bipush 127, 2) := by decide +kernel
theorem dX11_of_88 : decode cX11_of 88 = .ok (.iload_n 1, 1) := by decide +kernel
theorem dX11_of_89 : decode cX11_of 89 = .ok (.iadd, 1) := by decide +kernel
theorem dX11_of_90 : decode cX11_of 90 = .ok (.iaload, 1) := by decide +kernel
theorem dX11_of_91 : decode cX11_of 91 = .ok (.ireturn, 1) := by decide +kernel
theorem dX11_of_92 : decode cX11_of 92 = .ok (.aload_n 0, 1) := by decide +kernel
theorem dX11_of_93 : decode cX11_of 93 = .ok (.getfield 7, 3) := by decide +kernel
theorem dX11_of_96 : decode cX11_of 96 = .ok (.bipush 68, 2) := by decide +kernel
theorem dX11_of_98 : decode cX11_of 98 = .ok (.iload_n 1, 1) := by decide +kernel
theorem dX11_of_99 : decode cX11_of 99 = .ok (.iadd, 1) := by decide +kernel
theorem dX11_of_100 : decode cX11_of 100 = .ok (.iaload, 1) := by decide +kernel
theorem dX11_of_101 : decode cX11_of 101 = .ok (.ireturn, 1) := by decide +kernel
theorem dX11_of_102 : decode cX11_of 102 = .ok (.aload_n 0, 1) := by decide +kernel
theorem dX11_of_103 : decode cX11_of 103 = .ok (.getfield 7, 3) := by decide +kernel
theorem dX11_of_106 : decode cX11_of 106 = .ok (.sipush 139, 3) := by decide +kernel
theorem dX11_of_109 : decode cX11_of 109 = .ok (.iload_n 1, 1) := by decide +kernel
theorem dX11_of_110 : decode cX11_of 110 = .ok (.iadd, 1) := by decide +kernel
theorem dX11_of_111 : decode cX11_of 111 = .ok (.iaload, 1) := by decide +kernel
theorem dX11_of_112 : decode cX11_of 112 = .ok (.ireturn, 1) := by decide +kernel
theorem dX11_of_113 : decode cX11_of 113 = .ok (.bipush (-2), 2) := by decide +kernel
theorem dX11_of_115 : decode cX11_of 115 = .ok (.ireturn, 1) := by decide +kernel
theorem dX11_match_0 : decode cX11_match 0 = .ok (.aload_n 0, 1) := by decide +kernel
theorem dX11_match_1 : decode cX11_match 1 = .ok (.iload_n 1, 1) := by decide +kernel
theorem dX11_match_2 : decode cX11_match 2 = .ok (.invokevirtual 97, 3) := by decide +kernel
theorem dX11_match_5 : decode cX11_match 5 = .ok (.ifCond .eq 16, 3) := by decide +kernel
theorem dX11_match_8 : decode cX11_match 8 = .ok (.aload_n 0, 1) := by decide +kernel
theorem dX11_match_9 : decode cX11_match 9 = .ok (.iload_n 2, 1) := by decide +kernel
theorem dX11_match_10 : decode cX11_match 10 = .ok (.invokevirtual 97, 3) := by decide +kernel
theorem dX11_match_13 : decode cX11_match 13 = .ok (.ifCond .eq 8, 3) := by decide +kernel
theorem dX11_match_16 : decode cX11_match 16 = .ok (.iload_n 1, 1) := by decide +kernel
theorem dX11_match_17 : decode cX11_match 17 = .ok (.iload_n 2, 1) := by decide +kernel
theorem dX11_match_18 : decode cX11_match 18 = .ok (.if_icmp .ne 5, 3) := by decide +kernel
theorem dX11_match_21 : decode cX11_match 21 = .ok (.iconst (-1), 1) := by decide +kernel
theorem dX11_match_22 : decode cX11_match 22 = .ok (.ireturn, 1) := by decide +kernel
theorem dX11_match_23 : decode cX11_match 23 = .ok (.iload_n 3, 1) := by decide +kernel
theorem dX11_match_24 : decode cX11_match 24 = .ok (.ifCond .eq 12, 3) := by decide +kernel
theorem dX11_match_27 : decode cX11_match 27 = .ok (.aload_n 0, 1) := by decide +kernel
theorem dX11_match_28 : decode cX11_match 28 = .ok (.iload_n 1, 1) := by decide +kernel
theorem dX11_match_29 : decode cX11_match 29 = .ok (.iload_n 2, 1) := by decide +kernel
theorem dX11_match_30 : decode cX11_match 30 = .ok (.invokevirtual 342, 3) := by decide +kernel
theorem dX11_match_33 : decode cX11_match 33 = .ok (.goto 9, 3) := by decide +kernel
theorem dX11_match_36 : decode cX11_match 36 = .ok (.aload_n 0, 1) := by decide +kernel
theorem dX11_match_37 : decode cX11_match 37 = .ok (.iload_n 1, 1) := by decide +kernel
theorem dX11_match_38 : decode cX11_match 38 = .ok (.iload_n 2, 1) := by decide +kernel
theorem dX11_match_39 : decode cX11_match 39 = .ok (.invokevirtual 339, 3) := by decide +kernel
theorem dX11_match_42 : decode cX11_match 42 = .ok (.ireturn, 1) := by decide +kernel
theorem dX11_at_0 : decode cX11_at 0 = .ok (.aload_n 0, 1) := by decide +kernel
theorem dX11_at_1 : decode cX11_at 1 = .ok (.iload_n 1, 1) := by decide +kernel
theorem dX11_at_2 : decode cX11_at 2 = .ok (.invokevirtual 82, 3) := by decide +kernel
theorem dX11_at_5 : decode cX11_at 5 = .ok (.ifCond .eq 12, 3) := by decide +kernel
theorem dX11_at_8 : decode cX11_at 8 = .ok (.iload_n 2, 1) := by decide +kernel
theorem dX11_at_9 : decode cX11_at 9 = .ok (.iconst 0, 1) := by decide +kernel
theorem dX11_at_10 : decode cX11_at 10 = .ok (.iconst 1, 1) := by decide +kernel
theorem dX11_at_11 : decode cX11_at 11 = .ok (.invokestatic 89, 3) := by decide +kernel
theorem dX11_at_14 : decode cX11_at 14 = .ok (.ifCond .ne 6, 3) := by decide +kernel
theorem dX11_at_17 : decode cX11_at 17 = .ok (.bipush (-2), 2) := by decide +kernel
theorem dX11_at_19 : decode cX11_at 19 = .ok (.ireturn, 1) := by decide +kernel
theorem dX11_at_20 : decode cX11_at 20 = .ok (.iload_n 2, 1) := by decide +kernel
theorem dX11_at_21 : decode cX11_at 21 = .ok (.ifCond .ne 14, 3) := by decide +kernel
theorem dX11_at_24 : decode cX11_at 24 = .ok (.aload_n 0, 1) := by decide +kernel
theorem dX11_at_25 : decode cX11_at 25 = .ok (.getfield 7, 3) := by decide +kernel
theorem dX11_at_28 : decode cX11_at 28 = .ok (.iconst 4, 1) := by decide +kernel
theorem dX11_at_29 : decode cX11_at 29 = .ok (.iload_n 1, 1) := by decide +kernel
theorem dX11_at_30 : decode cX11_at 30 = .ok (.iadd, 1) := by decide +kernel
theorem dX11_at_31 : decode cX11_at 31 = .ok (.iaload, 1) := by decide +kernel
theorem dX11_at_32 : decode cX11_at 32 = .ok (.goto 8, 3) := by decide +kernel
theorem dX11_at_35 : decode cX11_at 35 = .ok (.aload_n 0, 1) := by decide +kernel
theorem dX11_at_36 : decode cX11_at 36 = .ok (.iload_n 1, 1) := by decide +kernel
theorem dX11_at_37 : decode cX11_at 37 = .ok (.invokevirtual 404, 3) := by decide +kernel
theorem dX11_at_40 : decode cX11_at 40 = .ok (.ireturn, 1) := by decide +kernel
theorem dX11_lift_0 : decode cX11_lift 0 = .ok (.aload_n 0, 1) := by decide +kernel
theorem dX11_lift_1 : decode cX11_lift 1 = .ok (.iload_n 1, 1) := by decide +kernel
theorem dX11_lift_2 : decode cX11_lift 2 = .ok (.invokevirtual 97, 3) := by decide +kernel
theorem dX11_lift_5 : decode cX11_lift 5 = .ok (.ifCond .eq 45, 3) := by decide +kernel
theorem dX11_lift_8 : decode cX11_lift 8 = .ok (.aload_n 0, 1) := by decide +kernel
theorem dX11_lift_9 : decode cX11_lift 9 = .ok (.iload_n 2, 1) := by decide +kernel
theorem dX11_lift_10 : decode cX11_lift 10 = .ok (.invokevirtual 97, 3) := by decide +kernel
theorem dX11_lift_13 : decode cX11_lift 13 = .ok (.ifCond .eq 37, 3) := by decide +kernel
theorem dX11_lift_16 : decode cX11_lift 16 = .ok (.iload_n 1, 1) := by decide +kernel
theorem dX11_lift_17 : decode cX11_lift 17 = .ok (.iload_n 2, 1) := by decide +kernel
theorem dX11_lift_18 : decode cX11_lift 18 = .ok (.if_icmp .eq 32, 3) := by decide +kernel
theorem dX11_lift_21 : decode cX11_lift 21 = .ok (.aload_n 0, 1) := by decide +kernel
theorem dX11_lift_22 : decode cX11_lift 22 = .ok (.iload_n 3, 1) := by decide +kernel
theorem dX11_lift_23 : decode cX11_lift 23 = .ok (.invokevirtual 82, 3) := by decide +kernel
theorem dX11_lift_26 : decode cX11_lift 26 = .ok (.ifCond .eq 24, 3) := by decide +kernel
theorem dX11_lift_29 : decode cX11_lift 29 = .ok (.aload_n 0, 1) := by decide +kernel
theorem dX11_lift_30 : decode cX11_lift 30 = .ok (.iload 4, 2) := by decide +kernel
theorem dX11_lift_32 : decode cX11_lift 32 = .ok (.invokevirtual 82, 3) := by decide +kernel
theorem dX11_lift_35 : decode cX11_lift 35 = .ok (.ifCond .eq 15, 3) := by decide +kernel
theorem dX11_lift_38 : decode cX11_lift 38 = .ok (.aload_n 0, 1) := by decide +kernel
theorem dX11_lift_39 : decode cX11_lift 39 = .ok (.iload_n 1, 1) := by decide +kernel
theorem dX11_lift_40 : decode cX11_lift 40 = .ok (.iload_n 2, 1) := by decide +kernel
theorem dX11_lift_41 : decode cX11_lift 41 = .ok (.iload_n 3, 1) := by decide +kernel
theorem dX11_lift_42 : decode cX11_lift 42 = .ok (.iload 4, 2) := by decide +kernel
theorem dX11_lift_44 : decode cX11_lift 44 = .ok (.invokevirtual 354, 3) := by decide +kernel
theorem dX11_lift_47 : decode cX11_lift 47 = .ok (.goto 4, 3) := by decide +kernel
theorem dX11_lift_50 : decode cX11_lift 50 = .ok (.iconst (-1), 1) := by decide +kernel
theorem dX11_lift_51 : decode cX11_lift 51 = .ok (.ireturn, 1) := by decide +kernel
theorem dX11_weather_0 : decode cX11_weather 0 = .ok (.iload_n 1, 1) := by decide +kernel
theorem dX11_weather_1 : decode cX11_weather 1 = .ok (.iconst 0, 1) := by decide +kernel
theorem dX11_weather_2 : decode cX11_weather 2 = .ok (.sipush 9999, 3) := by decide +kernel
theorem dX11_weather_5 : decode cX11_weather 5 = .ok (.invokestatic 89, 3) := by decide +kernel
theorem dX11_weather_8 : decode cX11_weather 8 = .ok (.ifCond .eq 11, 3) := by decide +kernel
theorem dX11_weather_11 : decode cX11_weather 11 = .ok (.aload_n 0, 1) := by decide +kernel
theorem dX11_weather_12 : decode cX11_weather 12 = .ok (.iload_n 1, 1) := by decide +kernel
theorem dX11_weather_13 : decode cX11_weather 13 = .ok (.invokevirtual 383, 3) := by decide +kernel
theorem dX11_weather_16 : decode cX11_weather 16 = .ok (.goto 4, 3) := by decide +kernel
theorem dX11_weather_19 : decode cX11_weather 19 = .ok (.iconst (-1), 1) := by decide +kernel
theorem dX11_weather_20 : decode cX11_weather 20 = .ok (.ireturn, 1) := by decide +kernel
theorem dX11_book_0 : decode cX11_book 0 = .ok (.iload_n 1, 1) := by decide +kernel
theorem dX11_book_1 : decode cX11_book 1 = .ok (.iconst 0, 1) := by decide +kernel
theorem dX11_book_2 : decode cX11_book 2 = .ok (.aload_n 0, 1) := by decide +kernel
theorem dX11_book_3 : decode cX11_book 3 = .ok (.getfield 7, 3) := by decide +kernel
theorem dX11_book_6 : decode cX11_book 6 = .ok (.iconst 3, 1) := by decide +kernel
theorem dX11_book_7 : decode cX11_book 7 = .ok (.iaload, 1) := by decide +kernel
theorem dX11_book_8 : decode cX11_book 8 = .ok (.iconst 1, 1) := by decide +kernel
theorem dX11_book_9 : decode cX11_book 9 = .ok (.isub, 1) := by decide +kernel
theorem dX11_book_10 : decode cX11_book 10 = .ok (.invokestatic 89, 3) := by decide +kernel
theorem dX11_book_13 : decode cX11_book 13 = .ok (.ifCond .eq 29, 3) := by decide +kernel
theorem dX11_book_16 : decode cX11_book 16 = .ok (.iload_n 2, 1) := by decide +kernel
theorem dX11_book_17 : decode cX11_book 17 = .ok (.iconst 0, 1) := by decide +kernel
theorem dX11_book_18 : decode cX11_book 18 = .ok (.iconst 3, 1) := by decide +kernel
theorem dX11_book_19 : decode cX11_book 19 = .ok (.invokestatic 89, 3) := by decide +kernel
theorem dX11_book_22 : decode cX11_book 22 = .ok (.ifCond .eq 20, 3) := by decide +kernel
theorem dX11_book_25 : decode cX11_book 25 = .ok (.aload_n 0, 1) := by decide +kernel
theorem dX11_book_26 : decode cX11_book 26 = .ok (.getfield 7, 3) := by decide +kernel
theorem dX11_book_29 : decode cX11_book 29 = .ok (.sipush 311, 3) := by decide +kernel
theorem dX11_book_32 : decode cX11_book 32 = .ok (.iconst 4, 1) := by decide +kernel
theorem dX11_book_33 : decode cX11_book 33 = .ok (.iload_n 1, 1) := by decide +kernel
theorem dX11_book_34 : decode cX11_book 34 = .ok (.imul, 1) := by decide +kernel
theorem dX11_book_35 : decode cX11_book 35 = .ok (.iadd, 1) := by decide +kernel
theorem dX11_book_36 : decode cX11_book 36 = .ok (.iload_n 2, 1) := by decide +kernel
theorem dX11_book_37 : decode cX11_book 37 = .ok (.iadd, 1) := by decide +kernel
theorem dX11_book_38 : decode cX11_book 38 = .ok (.iaload, 1) := by decide +kernel
theorem dX11_book_39 : decode cX11_book 39 = .ok (.goto 4, 3) := by decide +kernel
theorem dX11_book_42 : decode cX11_book 42 = .ok (.iconst (-1), 1) := by decide +kernel
theorem dX11_book_43 : decode cX11_book 43 = .ok (.ireturn, 1) := by decide +kernel
theorem dX11_lays_0 : decode cX11_lays 0 = .ok (.iconst 0, 1) := by decide +kernel
theorem dX11_lays_1 : decode cX11_lays 1 = .ok (.istore_n 1, 1) := by decide +kernel
theorem dX11_lays_2 : decode cX11_lays 2 = .ok (.iload_n 1, 1) := by decide +kernel
theorem dX11_lays_3 : decode cX11_lays 3 = .ok (.bipush 80, 2) := by decide +kernel
theorem dX11_lays_5 : decode cX11_lays 5 = .ok (.if_icmp .ge 21, 3) := by decide +kernel
theorem dX11_lays_8 : decode cX11_lays 8 = .ok (.aload_n 0, 1) := by decide +kernel
theorem dX11_lays_9 : decode cX11_lays 9 = .ok (.getfield 19, 3) := by decide +kernel
theorem dX11_lays_12 : decode cX11_lays 12 = .ok (.iload_n 1, 1) := by decide +kernel
theorem dX11_lays_13 : decode cX11_lays 13 = .ok (.aload_n 0, 1) := by decide +kernel
theorem dX11_lays_14 : decode cX11_lays 14 = .ok (.getfield 7, 3) := by decide +kernel
theorem dX11_lays_17 : decode cX11_lays 17 = .ok (.iload_n 1, 1) := by decide +kernel
theorem dX11_lays_18 : decode cX11_lays 18 = .ok (.iaload, 1) := by decide +kernel
theorem dX11_lays_19 : decode cX11_lays 19 = .ok (.iastore, 1) := by decide +kernel
theorem dX11_lays_20 : decode cX11_lays 20 = .ok (.iinc 1 1, 3) := by decide +kernel
theorem dX11_lays_23 : decode cX11_lays 23 = .ok (.goto (-21), 3) := by decide +kernel
theorem dX11_lays_26 : decode cX11_lays 26 = .ok (.aload_n 0, 1) := by decide +kernel
theorem dX11_lays_27 : decode cX11_lays 27 = .ok (.iconst 0, 1) := by decide +kernel
theorem dX11_lays_28 : decode cX11_lays 28 = .ok (.putfield 347, 3) := by decide +kernel
theorem dX11_lays_31 : decode cX11_lays 31 = .ok (.aload_n 0, 1) := by decide +kernel
theorem dX11_lays_32 : decode cX11_lays 32 = .ok (.iconst (-1), 1) := by decide +kernel
theorem dX11_lays_33 : decode cX11_lays 33 = .ok (.putfield 389, 3) := by decide +kernel
theorem dX11_lays_36 : decode cX11_lays 36 = .ok (.return_, 1) := by decide +kernel
theorem dX11_putsBack_0 : decode cX11_putsBack 0 = .ok (.iconst 0, 1) := by decide +kernel
theorem dX11_putsBack_1 : decode cX11_putsBack 1 = .ok (.istore_n 1, 1) := by decide +kernel
theorem dX11_putsBack_2 : decode cX11_putsBack 2 = .ok (.iload_n 1, 1) := by decide +kernel
theorem dX11_putsBack_3 : decode cX11_putsBack 3 = .ok (.bipush 80, 2) := by decide +kernel
theorem dX11_putsBack_5 : decode cX11_putsBack 5 = .ok (.if_icmp .ge 21, 3) := by decide +kernel
theorem dX11_putsBack_8 : decode cX11_putsBack 8 = .ok (.aload_n 0, 1) := by decide +kernel
theorem dX11_putsBack_9 : decode cX11_putsBack 9 = .ok (.getfield 7, 3) := by decide +kernel
theorem dX11_putsBack_12 : decode cX11_putsBack 12 = .ok (.iload_n 1, 1) := by decide +kernel
theorem dX11_putsBack_13 : decode cX11_putsBack 13 = .ok (.aload_n 0, 1) := by decide +kernel
theorem dX11_putsBack_14 : decode cX11_putsBack 14 = .ok (.getfield 19, 3) := by decide +kernel
theorem dX11_putsBack_17 : decode cX11_putsBack 17 = .ok (.iload_n 1, 1) := by decide +kernel
theorem dX11_putsBack_18 : decode cX11_putsBack 18 = .ok (.iaload, 1) := by decide +kernel
theorem dX11_putsBack_19 : decode cX11_putsBack 19 = .ok (.iastore, 1) := by decide +kernel
theorem dX11_putsBack_20 : decode cX11_putsBack 20 = .ok (.iinc 1 1, 3) := by decide +kernel
theorem dX11_putsBack_23 : decode cX11_putsBack 23 = .ok (.goto (-21), 3) := by decide +kernel
theorem dX11_putsBack_26 : decode cX11_putsBack 26 = .ok (.return_, 1) := by decide +kernel
theorem dX11_lies_0 : decode cX11_lies 0 = .ok (.aload_n 0, 1) := by decide +kernel
theorem dX11_lies_1 : decode cX11_lies 1 = .ok (.iload_n 1, 1) := by decide +kernel
theorem dX11_lies_2 : decode cX11_lies 2 = .ok (.invokevirtual 82, 3) := by decide +kernel
theorem dX11_lies_5 : decode cX11_lies 5 = .ok (.ifCond .eq 13, 3) := by decide +kernel
theorem dX11_lies_8 : decode cX11_lies 8 = .ok (.iload_n 2, 1) := by decide +kernel
theorem dX11_lies_9 : decode cX11_lies 9 = .ok (.iconst 0, 1) := by decide +kernel
theorem dX11_lies_10 : decode cX11_lies 10 = .ok (.bipush 60, 2) := by decide +kernel
theorem dX11_lies_12 : decode cX11_lies 12 = .ok (.invokestatic 89, 3) := by decide +kernel
theorem dX11_lies_15 : decode cX11_lies 15 = .ok (.ifCond .ne 5, 3) := by decide +kernel
theorem dX11_lies_18 : decode cX11_lies 18 = .ok (.iconst (-1), 1) := by decide +kernel
theorem dX11_lies_19 : decode cX11_lies 19 = .ok (.ireturn, 1) := by decide +kernel
theorem dX11_lies_20 : decode cX11_lies 20 = .ok (.aload_n 0, 1) := by decide +kernel
theorem dX11_lies_21 : decode cX11_lies 21 = .ok (.invokevirtual 410, 3) := by decide +kernel
theorem dX11_lies_24 : decode cX11_lies 24 = .ok (.iconst 0, 1) := by decide +kernel
theorem dX11_lies_25 : decode cX11_lies 25 = .ok (.istore_n 3, 1) := by decide +kernel
theorem dX11_lies_26 : decode cX11_lies 26 = .ok (.iload_n 3, 1) := by decide +kernel
theorem dX11_lies_27 : decode cX11_lies 27 = .ok (.iload_n 2, 1) := by decide +kernel
theorem dX11_lies_28 : decode cX11_lies 28 = .ok (.if_icmp .ge 14, 3) := by decide +kernel
theorem dX11_lies_31 : decode cX11_lies 31 = .ok (.aload_n 0, 1) := by decide +kernel
theorem dX11_lies_32 : decode cX11_lies 32 = .ok (.invokevirtual 407, 3) := by decide +kernel
theorem dX11_lies_35 : decode cX11_lies 35 = .ok (.pop, 1) := by decide +kernel
theorem dX11_lies_36 : decode cX11_lies 36 = .ok (.iinc 3 1, 3) := by decide +kernel
theorem dX11_lies_39 : decode cX11_lies 39 = .ok (.goto (-13), 3) := by decide +kernel
theorem dX11_lies_42 : decode cX11_lies 42 = .ok (.aload_n 0, 1) := by decide +kernel
theorem dX11_lies_43 : decode cX11_lies 43 = .ok (.getfield 7, 3) := by decide +kernel
theorem dX11_lies_46 : decode cX11_lies 46 = .ok (.iconst 4, 1) := by decide +kernel
theorem dX11_lies_47 : decode cX11_lies 47 = .ok (.iload_n 1, 1) := by decide +kernel
theorem dX11_lies_48 : decode cX11_lies 48 = .ok (.iadd, 1) := by decide +kernel
theorem dX11_lies_49 : decode cX11_lies 49 = .ok (.iaload, 1) := by decide +kernel
theorem dX11_lies_50 : decode cX11_lies 50 = .ok (.istore_n 3, 1) := by decide +kernel
theorem dX11_lies_51 : decode cX11_lies 51 = .ok (.aload_n 0, 1) := by decide +kernel
theorem dX11_lies_52 : decode cX11_lies 52 = .ok (.invokevirtual 413, 3) := by decide +kernel
theorem dX11_lies_55 : decode cX11_lies 55 = .ok (.iload_n 3, 1) := by decide +kernel
theorem dX11_lies_56 : decode cX11_lies 56 = .ok (.ireturn, 1) := by decide +kernel
theorem dX11_lastOf_0 : decode cX11_lastOf 0 = .ok (.iconst (-1), 1) := by decide +kernel
theorem dX11_lastOf_1 : decode cX11_lastOf 1 = .ok (.istore 4, 2) := by decide +kernel
theorem dX11_lastOf_3 : decode cX11_lastOf 3 = .ok (.iconst 0, 1) := by decide +kernel
theorem dX11_lastOf_4 : decode cX11_lastOf 4 = .ok (.istore 5, 2) := by decide +kernel
theorem dX11_lastOf_6 : decode cX11_lastOf 6 = .ok (.iload 5, 2) := by decide +kernel
theorem dX11_lastOf_8 : decode cX11_lastOf 8 = .ok (.aload_n 0, 1) := by decide +kernel
theorem dX11_lastOf_9 : decode cX11_lastOf 9 = .ok (.getfield 7, 3) := by decide +kernel
theorem dX11_lastOf_12 : decode cX11_lastOf 12 = .ok (.iload_n 1, 1) := by decide +kernel
theorem dX11_lastOf_13 : decode cX11_lastOf 13 = .ok (.iaload, 1) := by decide +kernel
theorem dX11_lastOf_14 : decode cX11_lastOf 14 = .ok (.if_icmp .ge 27, 3) := by decide +kernel
theorem dX11_lastOf_17 : decode cX11_lastOf 17 = .ok (.iload 4, 2) := by decide +kernel
theorem dX11_lastOf_19 : decode cX11_lastOf 19 = .ok (.aload_n 0, 1) := by decide +kernel
theorem dX11_lastOf_20 : decode cX11_lastOf 20 = .ok (.getfield 7, 3) := by decide +kernel
theorem dX11_lastOf_23 : decode cX11_lastOf 23 = .ok (.iload_n 2, 1) := by decide +kernel
theorem dX11_lastOf_24 : decode cX11_lastOf 24 = .ok (.iload_n 3, 1) := by decide +kernel
theorem dX11_lastOf_25 : decode cX11_lastOf 25 = .ok (.iload 5, 2) := by decide +kernel
theorem dX11_lastOf_27 : decode cX11_lastOf 27 = .ok (.imul, 1) := by decide +kernel
theorem dX11_lastOf_28 : decode cX11_lastOf 28 = .ok (.iadd, 1) := by decide +kernel
theorem dX11_lastOf_29 : decode cX11_lastOf 29 = .ok (.iaload, 1) := by decide +kernel
theorem dX11_lastOf_30 : decode cX11_lastOf 30 = .ok (.invokestatic 327, 3) := by decide +kernel
theorem dX11_lastOf_33 : decode cX11_lastOf 33 = .ok (.istore 4, 2) := by decide +kernel
theorem dX11_lastOf_35 : decode cX11_lastOf 35 = .ok (.iinc 5 1, 3) := by decide +kernel
theorem dX11_lastOf_38 : decode cX11_lastOf 38 = .ok (.goto (-32), 3) := by decide +kernel
theorem dX11_lastOf_41 : decode cX11_lastOf 41 = .ok (.iload 4, 2) := by decide +kernel
theorem dX11_lastOf_43 : decode cX11_lastOf 43 = .ok (.ireturn, 1) := by decide +kernel
theorem dX11_meetsWants_0 : decode cX11_meetsWants 0 = .ok (.aload_n 0, 1) := by decide +kernel
theorem dX11_meetsWants_1 : decode cX11_meetsWants 1 = .ok (.bipush 89, 2) := by decide +kernel
theorem dX11_meetsWants_3 : decode cX11_meetsWants 3 = .ok (.sipush 240, 3) := by decide +kernel
theorem dX11_meetsWants_6 : decode cX11_meetsWants 6 = .ok (.iconst 3, 1) := by decide +kernel
theorem dX11_meetsWants_7 : decode cX11_meetsWants 7 = .ok (.invokevirtual 416, 3) := by decide +kernel
theorem dX11_meetsWants_10 : decode cX11_meetsWants 10 = .ok (.istore_n 2, 1) := by decide +kernel
theorem dX11_meetsWants_11 : decode cX11_meetsWants 11 = .ok (.iconst 0, 1) := by decide +kernel
theorem dX11_meetsWants_12 : decode cX11_meetsWants 12 = .ok (.istore_n 3, 1) := by decide +kernel
theorem dX11_meetsWants_13 : decode cX11_meetsWants 13 = .ok (.iconst (-1), 1) := by decide +kernel
theorem dX11_meetsWants_14 : decode cX11_meetsWants 14 = .ok (.istore 4, 2) := by decide +kernel
theorem dX11_meetsWants_16 : decode cX11_meetsWants 16 = .ok (.aload_n 0, 1) := by decide +kernel
theorem dX11_meetsWants_17 : decode cX11_meetsWants 17 = .ok (.invokevirtual 410, 3) := by decide +kernel
theorem dX11_meetsWants_20 : decode cX11_meetsWants 20 = .ok (.aload_n 0, 1) := by decide +kernel
theorem dX11_meetsWants_21 : decode cX11_meetsWants 21 = .ok (.getfield 7, 3) := by decide +kernel
theorem dX11_meetsWants_24 : decode cX11_meetsWants 24 = .ok (.iconst 0, 1) := by decide +kernel
theorem dX11_meetsWants_25 : decode cX11_meetsWants 25 = .ok (.iaload, 1) := by decide +kernel
theorem dX11_meetsWants_26 : decode cX11_meetsWants 26 = .ok (.iload_n 2, 1) := by decide +kernel
theorem dX11_meetsWants_27 : decode cX11_meetsWants 27 = .ok (.if_icmp .gt 132, 3) := by decide +kernel
theorem dX11_meetsWants_30 : decode cX11_meetsWants 30 = .ok (.aload_n 0, 1) := by decide +kernel
theorem dX11_meetsWants_31 : decode cX11_meetsWants 31 = .ok (.getfield 7, 3) := by decide +kernel
theorem dX11_meetsWants_34 : decode cX11_meetsWants 34 = .ok (.iconst 0, 1) := by decide +kernel
theorem dX11_meetsWants_35 : decode cX11_meetsWants 35 = .ok (.iaload, 1) := by decide +kernel
theorem dX11_meetsWants_36 : decode cX11_meetsWants 36 = .ok (.istore 5, 2) := by decide +kernel
theorem dX11_meetsWants_38 : decode cX11_meetsWants 38 = .ok (.aload_n 0, 1) := by decide +kernel
theorem dX11_meetsWants_39 : decode cX11_meetsWants 39 = .ok (.invokevirtual 407, 3) := by decide +kernel
theorem dX11_meetsWants_42 : decode cX11_meetsWants 42 = .ok (.pop, 1) := by decide +kernel
theorem dX11_meetsWants_43 : decode cX11_meetsWants 43 = .ok (.iconst 0, 1) := by decide +kernel
theorem dX11_meetsWants_44 : decode cX11_meetsWants 44 = .ok (.istore 6, 2) := by decide +kernel
theorem dX11_meetsWants_46 : decode cX11_meetsWants 46 = .ok (.iload 6, 2) := by decide +kernel
theorem dX11_meetsWants_48 : decode cX11_meetsWants 48 = .ok (.aload_n 0, 1) := by decide +kernel
theorem dX11_meetsWants_49 : decode cX11_meetsWants 49 = .ok (.getfield 7, 3) := by decide +kernel
theorem dX11_meetsWants_52 : decode cX11_meetsWants 52 = .ok (.bipush 89, 2) := by decide +kernel
theorem dX11_meetsWants_54 : decode cX11_meetsWants 54 = .ok (.iaload, 1) := by decide +kernel
theorem dX11_meetsWants_55 : decode cX11_meetsWants 55 = .ok (.if_icmp .ge 101, 3) := by decide +kernel
theorem dX11_meetsWants_58 : decode cX11_meetsWants 58 = .ok (.sipush 239, 3) := by decide +kernel
theorem dX11_meetsWants_61 : decode cX11_meetsWants 61 = .ok (.iconst 3, 1) := by decide +kernel
theorem dX11_meetsWants_62 : decode cX11_meetsWants 62 = .ok (.iload 6, 2) := by decide +kernel
theorem dX11_meetsWants_64 : decode cX11_meetsWants 64 = .ok (.imul, 1) := by decide +kernel
theorem dX11_meetsWants_65 : decode cX11_meetsWants 65 = .ok (.iadd, 1) := by decide +kernel
theorem dX11_meetsWants_66 : decode cX11_meetsWants 66 = .ok (.istore 7, 2) := by decide +kernel
theorem dX11_meetsWants_68 : decode cX11_meetsWants 68 = .ok (.aload_n 0, 1) := by decide +kernel
theorem dX11_meetsWants_69 : decode cX11_meetsWants 69 = .ok (.getfield 7, 3) := by decide +kernel
theorem dX11_meetsWants_72 : decode cX11_meetsWants 72 = .ok (.iload 7, 2) := by decide +kernel
theorem dX11_meetsWants_74 : decode cX11_meetsWants 74 = .ok (.iconst 1, 1) := by decide +kernel
theorem dX11_meetsWants_75 : decode cX11_meetsWants 75 = .ok (.iadd, 1) := by decide +kernel
theorem dX11_meetsWants_76 : decode cX11_meetsWants 76 = .ok (.iaload, 1) := by decide +kernel
theorem dX11_meetsWants_77 : decode cX11_meetsWants 77 = .ok (.iload 5, 2) := by decide +kernel
theorem dX11_meetsWants_79 : decode cX11_meetsWants 79 = .ok (.if_icmp .eq 6, 3) := by decide +kernel
theorem dX11_meetsWants_82 : decode cX11_meetsWants 82 = .ok (.goto 68, 3) := by decide +kernel
theorem dX11_meetsWants_85 : decode cX11_meetsWants 85 = .ok (.aload_n 0, 1) := by decide +kernel
theorem dX11_meetsWants_86 : decode cX11_meetsWants 86 = .ok (.getfield 7, 3) := by decide +kernel
theorem dX11_meetsWants_89 : decode cX11_meetsWants 89 = .ok (.iconst 4, 1) := by decide +kernel
theorem dX11_meetsWants_90 : decode cX11_meetsWants 90 = .ok (.aload_n 0, 1) := by decide +kernel
theorem dX11_meetsWants_91 : decode cX11_meetsWants 91 = .ok (.getfield 7, 3) := by decide +kernel
theorem dX11_meetsWants_94 : decode cX11_meetsWants 94 = .ok (.iload 7, 2) := by decide +kernel
theorem dX11_meetsWants_96 : decode cX11_meetsWants 96 = .ok (.iaload, 1) := by decide +kernel
theorem dX11_meetsWants_97 : decode cX11_meetsWants 97 = .ok (.iadd, 1) := by decide +kernel
theorem dX11_meetsWants_98 : decode cX11_meetsWants 98 = .ok (.iaload, 1) := by decide +kernel
theorem dX11_meetsWants_99 : decode cX11_meetsWants 99 = .ok (.ifCond .ne 7, 3) := by decide +kernel
theorem dX11_meetsWants_102 : decode cX11_meetsWants 102 = .ok (.iconst 1, 1) := by decide +kernel
theorem dX11_meetsWants_103 : decode cX11_meetsWants 103 = .ok (.goto 4, 3) := by decide +kernel
theorem dX11_meetsWants_106 : decode cX11_meetsWants 106 = .ok (.iconst 0, 1) := by decide +kernel
theorem dX11_meetsWants_107 : decode cX11_meetsWants 107 = .ok (.istore 8, 2) := by decide +kernel
theorem dX11_meetsWants_109 : decode cX11_meetsWants 109 = .ok (.iload_n 3, 1) := by decide +kernel
theorem dX11_meetsWants_110 : decode cX11_meetsWants 110 = .ok (.iload 8, 2) := by decide +kernel
theorem dX11_meetsWants_112 : decode cX11_meetsWants 112 = .ok (.ifCond .eq 15, 3) := by decide +kernel
theorem dX11_meetsWants_115 : decode cX11_meetsWants 115 = .ok (.aload_n 0, 1) := by decide +kernel
theorem dX11_meetsWants_116 : decode cX11_meetsWants 116 = .ok (.getfield 7, 3) := by decide +kernel
theorem dX11_meetsWants_119 : decode cX11_meetsWants 119 = .ok (.iload 7, 2) := by decide +kernel
theorem dX11_meetsWants_121 : decode cX11_meetsWants 121 = .ok (.iconst 2, 1) := by decide +kernel
theorem dX11_meetsWants_122 : decode cX11_meetsWants 122 = .ok (.iadd, 1) := by decide +kernel
theorem dX11_meetsWants_123 : decode cX11_meetsWants 123 = .ok (.iaload, 1) := by decide +kernel
theorem dX11_meetsWants_124 : decode cX11_meetsWants 124 = .ok (.goto 4, 3) := by decide +kernel
theorem dX11_meetsWants_127 : decode cX11_meetsWants 127 = .ok (.iconst 0, 1) := by decide +kernel
theorem dX11_meetsWants_128 : decode cX11_meetsWants 128 = .ok (.iadd, 1) := by decide +kernel
theorem dX11_meetsWants_129 : decode cX11_meetsWants 129 = .ok (.istore_n 3, 1) := by decide +kernel
