theorem dX11_meetsWants_130 : decode cX11_meetsWants 130 = .ok (.iload 8, 2) := by decide +kernel
theorem dX11_meetsWants_132 : decode cX11_meetsWants 132 = .ok (.ifCond .ne 9, 3) := by decide +kernel
theorem dX11_meetsWants_135 : decode cX11_meetsWants 135 = .ok (.iload 4, 2) := by decide +kernel
theorem dX11_meetsWants_137 : decode cX11_meetsWants 137 = .ok (.iconst (-1), 1) := by decide +kernel
theorem dX11_meetsWants_138 : decode cX11_meetsWants 138 = .ok (.if_icmp .eq 8, 3) := by decide +kernel
theorem dX11_meetsWants_141 : decode cX11_meetsWants 141 = .ok (.iload 4, 2) := by decide +kernel
theorem dX11_meetsWants_143 : decode cX11_meetsWants 143 = .ok (.goto 5, 3) := by decide +kernel
theorem dX11_meetsWants_146 : decode cX11_meetsWants 146 = .ok (.iload 6, 2) := by decide +kernel
theorem dX11_meetsWants_148 : decode cX11_meetsWants 148 = .ok (.istore 4, 2) := by decide +kernel
theorem dX11_meetsWants_150 : decode cX11_meetsWants 150 = .ok (.iinc 6 1, 3) := by decide +kernel
theorem dX11_meetsWants_153 : decode cX11_meetsWants 153 = .ok (.goto (-107), 3) := by decide +kernel
theorem dX11_meetsWants_156 : decode cX11_meetsWants 156 = .ok (.goto (-136), 3) := by decide +kernel
theorem dX11_meetsWants_159 : decode cX11_meetsWants 159 = .ok (.aload_n 0, 1) := by decide +kernel
theorem dX11_meetsWants_160 : decode cX11_meetsWants 160 = .ok (.invokevirtual 413, 3) := by decide +kernel
theorem dX11_meetsWants_163 : decode cX11_meetsWants 163 = .ok (.iload_n 1, 1) := by decide +kernel
theorem dX11_meetsWants_164 : decode cX11_meetsWants 164 = .ok (.ifCond .ne 7, 3) := by decide +kernel
theorem dX11_meetsWants_167 : decode cX11_meetsWants 167 = .ok (.iload_n 3, 1) := by decide +kernel
theorem dX11_meetsWants_168 : decode cX11_meetsWants 168 = .ok (.goto 5, 3) := by decide +kernel
theorem dX11_meetsWants_171 : decode cX11_meetsWants 171 = .ok (.iload 4, 2) := by decide +kernel
theorem dX11_meetsWants_173 : decode cX11_meetsWants 173 = .ok (.ireturn, 1) := by decide +kernel
theorem dX11_meets_0 : decode cX11_meets 0 = .ok (.iload_n 1, 1) := by decide +kernel
theorem dX11_meets_1 : decode cX11_meets 1 = .ok (.iconst 0, 1) := by decide +kernel
theorem dX11_meets_2 : decode cX11_meets 2 = .ok (.iconst 2, 1) := by decide +kernel
theorem dX11_meets_3 : decode cX11_meets 3 = .ok (.invokestatic 89, 3) := by decide +kernel
theorem dX11_meets_6 : decode cX11_meets 6 = .ok (.ifCond .ne 5, 3) := by decide +kernel
theorem dX11_meets_9 : decode cX11_meets 9 = .ok (.iconst (-1), 1) := by decide +kernel
theorem dX11_meets_10 : decode cX11_meets 10 = .ok (.ireturn, 1) := by decide +kernel
theorem dX11_meets_11 : decode cX11_meets 11 = .ok (.iload_n 1, 1) := by decide +kernel
theorem dX11_meets_12 : decode cX11_meets 12 = .ok (.iconst 2, 1) := by decide +kernel
theorem dX11_meets_13 : decode cX11_meets 13 = .ok (.if_icmp .ge 9, 3) := by decide +kernel
theorem dX11_meets_16 : decode cX11_meets 16 = .ok (.aload_n 0, 1) := by decide +kernel
theorem dX11_meets_17 : decode cX11_meets 17 = .ok (.iload_n 1, 1) := by decide +kernel
theorem dX11_meets_18 : decode cX11_meets 18 = .ok (.invokevirtual 419, 3) := by decide +kernel
theorem dX11_meets_21 : decode cX11_meets 21 = .ok (.ireturn, 1) := by decide +kernel
theorem dX11_meets_22 : decode cX11_meets 22 = .ok (.aload_n 0, 1) := by decide +kernel
theorem dX11_meets_23 : decode cX11_meets 23 = .ok (.bipush 87, 2) := by decide +kernel
theorem dX11_meets_25 : decode cX11_meets 25 = .ok (.sipush 151, 3) := by decide +kernel
theorem dX11_meets_28 : decode cX11_meets 28 = .ok (.iconst 4, 1) := by decide +kernel
theorem dX11_meets_29 : decode cX11_meets 29 = .ok (.invokevirtual 416, 3) := by decide +kernel
theorem dX11_meets_32 : decode cX11_meets 32 = .ok (.istore_n 2, 1) := by decide +kernel
theorem dX11_meets_33 : decode cX11_meets 33 = .ok (.aload_n 0, 1) := by decide +kernel
theorem dX11_meets_34 : decode cX11_meets 34 = .ok (.invokevirtual 410, 3) := by decide +kernel
theorem dX11_meets_37 : decode cX11_meets 37 = .ok (.aload_n 0, 1) := by decide +kernel
theorem dX11_meets_38 : decode cX11_meets 38 = .ok (.getfield 7, 3) := by decide +kernel
theorem dX11_meets_41 : decode cX11_meets 41 = .ok (.iconst 0, 1) := by decide +kernel
theorem dX11_meets_42 : decode cX11_meets 42 = .ok (.iaload, 1) := by decide +kernel
theorem dX11_meets_43 : decode cX11_meets 43 = .ok (.iload_n 2, 1) := by decide +kernel
theorem dX11_meets_44 : decode cX11_meets 44 = .ok (.if_icmp .gt 19, 3) := by decide +kernel
theorem dX11_meets_47 : decode cX11_meets 47 = .ok (.aload_n 0, 1) := by decide +kernel
theorem dX11_meets_48 : decode cX11_meets 48 = .ok (.getfield 389, 3) := by decide +kernel
theorem dX11_meets_51 : decode cX11_meets 51 = .ok (.iconst (-1), 1) := by decide +kernel
theorem dX11_meets_52 : decode cX11_meets 52 = .ok (.if_icmp .ne 11, 3) := by decide +kernel
theorem dX11_meets_55 : decode cX11_meets 55 = .ok (.aload_n 0, 1) := by decide +kernel
theorem dX11_meets_56 : decode cX11_meets 56 = .ok (.invokevirtual 407, 3) := by decide +kernel
theorem dX11_meets_59 : decode cX11_meets 59 = .ok (.pop, 1) := by decide +kernel
theorem dX11_meets_60 : decode cX11_meets 60 = .ok (.goto (-23), 3) := by decide +kernel
theorem dX11_meets_63 : decode cX11_meets 63 = .ok (.aload_n 0, 1) := by decide +kernel
theorem dX11_meets_64 : decode cX11_meets 64 = .ok (.invokevirtual 413, 3) := by decide +kernel
theorem dX11_meets_67 : decode cX11_meets 67 = .ok (.aload_n 0, 1) := by decide +kernel
theorem dX11_meets_68 : decode cX11_meets 68 = .ok (.getfield 389, 3) := by decide +kernel
theorem dX11_meets_71 : decode cX11_meets 71 = .ok (.ireturn, 1) := by decide +kernel
theorem dX11_nextAsked_0 : decode cX11_nextAsked 0 = .ok (.iconst (-1), 1) := by decide +kernel
theorem dX11_nextAsked_1 : decode cX11_nextAsked 1 = .ok (.istore_n 2, 1) := by decide +kernel
theorem dX11_nextAsked_2 : decode cX11_nextAsked 2 = .ok (.iconst 0, 1) := by decide +kernel
theorem dX11_nextAsked_3 : decode cX11_nextAsked 3 = .ok (.istore_n 3, 1) := by decide +kernel
theorem dX11_nextAsked_4 : decode cX11_nextAsked 4 = .ok (.iload_n 3, 1) := by decide +kernel
theorem dX11_nextAsked_5 : decode cX11_nextAsked 5 = .ok (.aload_n 0, 1) := by decide +kernel
theorem dX11_nextAsked_6 : decode cX11_nextAsked 6 = .ok (.getfield 7, 3) := by decide +kernel
theorem dX11_nextAsked_9 : decode cX11_nextAsked 9 = .ok (.bipush 85, 2) := by decide +kernel
theorem dX11_nextAsked_11 : decode cX11_nextAsked 11 = .ok (.iaload, 1) := by decide +kernel
theorem dX11_nextAsked_12 : decode cX11_nextAsked 12 = .ok (.if_icmp .ge 74, 3) := by decide +kernel
theorem dX11_nextAsked_15 : decode cX11_nextAsked 15 = .ok (.aload_n 0, 1) := by decide +kernel
theorem dX11_nextAsked_16 : decode cX11_nextAsked 16 = .ok (.iload_n 1, 1) := by decide +kernel
theorem dX11_nextAsked_17 : decode cX11_nextAsked 17 = .ok (.iload_n 3, 1) := by decide +kernel
theorem dX11_nextAsked_18 : decode cX11_nextAsked 18 = .ok (.invokevirtual 278, 3) := by decide +kernel
theorem dX11_nextAsked_21 : decode cX11_nextAsked 21 = .ok (.ifCond .eq 59, 3) := by decide +kernel
theorem dX11_nextAsked_24 : decode cX11_nextAsked 24 = .ok (.aload_n 0, 1) := by decide +kernel
theorem dX11_nextAsked_25 : decode cX11_nextAsked 25 = .ok (.iload_n 3, 1) := by decide +kernel
theorem dX11_nextAsked_26 : decode cX11_nextAsked 26 = .ok (.invokevirtual 351, 3) := by decide +kernel
theorem dX11_nextAsked_29 : decode cX11_nextAsked 29 = .ok (.ifCond .eq 51, 3) := by decide +kernel
theorem dX11_nextAsked_32 : decode cX11_nextAsked 32 = .ok (.aload_n 0, 1) := by decide +kernel
theorem dX11_nextAsked_33 : decode cX11_nextAsked 33 = .ok (.getfield 50, 3) := by decide +kernel
theorem dX11_nextAsked_36 : decode cX11_nextAsked 36 = .ok (.iload_n 1, 1) := by decide +kernel
theorem dX11_nextAsked_37 : decode cX11_nextAsked 37 = .ok (.iaload, 1) := by decide +kernel
theorem dX11_nextAsked_38 : decode cX11_nextAsked 38 = .ok (.iload_n 3, 1) := by decide +kernel
theorem dX11_nextAsked_39 : decode cX11_nextAsked 39 = .ok (.ishr, 1) := by decide +kernel
theorem dX11_nextAsked_40 : decode cX11_nextAsked 40 = .ok (.iconst 1, 1) := by decide +kernel
theorem dX11_nextAsked_41 : decode cX11_nextAsked 41 = .ok (.iand, 1) := by decide +kernel
theorem dX11_nextAsked_42 : decode cX11_nextAsked 42 = .ok (.iconst 1, 1) := by decide +kernel
theorem dX11_nextAsked_43 : decode cX11_nextAsked 43 = .ok (.if_icmp .eq 37, 3) := by decide +kernel
theorem dX11_nextAsked_46 : decode cX11_nextAsked 46 = .ok (.aload_n 0, 1) := by decide +kernel
theorem dX11_nextAsked_47 : decode cX11_nextAsked 47 = .ok (.iload_n 1, 1) := by decide +kernel
theorem dX11_nextAsked_48 : decode cX11_nextAsked 48 = .ok (.iload_n 3, 1) := by decide +kernel
theorem dX11_nextAsked_49 : decode cX11_nextAsked 49 = .ok (.invokevirtual 339, 3) := by decide +kernel
theorem dX11_nextAsked_52 : decode cX11_nextAsked 52 = .ok (.ifCond .ne 6, 3) := by decide +kernel
theorem dX11_nextAsked_55 : decode cX11_nextAsked 55 = .ok (.goto 25, 3) := by decide +kernel
theorem dX11_nextAsked_58 : decode cX11_nextAsked 58 = .ok (.iload_n 2, 1) := by decide +kernel
theorem dX11_nextAsked_59 : decode cX11_nextAsked 59 = .ok (.iconst (-1), 1) := by decide +kernel
theorem dX11_nextAsked_60 : decode cX11_nextAsked 60 = .ok (.if_icmp .eq 18, 3) := by decide +kernel
theorem dX11_nextAsked_63 : decode cX11_nextAsked 63 = .ok (.aload_n 0, 1) := by decide +kernel
theorem dX11_nextAsked_64 : decode cX11_nextAsked 64 = .ok (.iload_n 1, 1) := by decide +kernel
theorem dX11_nextAsked_65 : decode cX11_nextAsked 65 = .ok (.iload_n 3, 1) := by decide +kernel
theorem dX11_nextAsked_66 : decode cX11_nextAsked 66 = .ok (.invokevirtual 339, 3) := by decide +kernel
theorem dX11_nextAsked_69 : decode cX11_nextAsked 69 = .ok (.aload_n 0, 1) := by decide +kernel
theorem dX11_nextAsked_70 : decode cX11_nextAsked 70 = .ok (.iload_n 1, 1) := by decide +kernel
theorem dX11_nextAsked_71 : decode cX11_nextAsked 71 = .ok (.iload_n 2, 1) := by decide +kernel
theorem dX11_nextAsked_72 : decode cX11_nextAsked 72 = .ok (.invokevirtual 339, 3) := by decide +kernel
theorem dX11_nextAsked_75 : decode cX11_nextAsked 75 = .ok (.if_icmp .le 5, 3) := by decide +kernel
theorem dX11_nextAsked_78 : decode cX11_nextAsked 78 = .ok (.iload_n 3, 1) := by decide +kernel
theorem dX11_nextAsked_79 : decode cX11_nextAsked 79 = .ok (.istore_n 2, 1) := by decide +kernel
theorem dX11_nextAsked_80 : decode cX11_nextAsked 80 = .ok (.iinc 3 1, 3) := by decide +kernel
theorem dX11_nextAsked_83 : decode cX11_nextAsked 83 = .ok (.goto (-79), 3) := by decide +kernel
theorem dX11_nextAsked_86 : decode cX11_nextAsked 86 = .ok (.iload_n 2, 1) := by decide +kernel
theorem dX11_nextAsked_87 : decode cX11_nextAsked 87 = .ok (.ireturn, 1) := by decide +kernel
theorem dX11_keepsFor_0 : decode cX11_keepsFor 0 = .ok (.aload_n 0, 1) := by decide +kernel
theorem dX11_keepsFor_1 : decode cX11_keepsFor 1 = .ok (.iload_n 1, 1) := by decide +kernel
theorem dX11_keepsFor_2 : decode cX11_keepsFor 2 = .ok (.iload_n 2, 1) := by decide +kernel
theorem dX11_keepsFor_3 : decode cX11_keepsFor 3 = .ok (.invokevirtual 339, 3) := by decide +kernel
theorem dX11_keepsFor_6 : decode cX11_keepsFor 6 = .ok (.ifCond .ne 5, 3) := by decide +kernel
theorem dX11_keepsFor_9 : decode cX11_keepsFor 9 = .ok (.iconst 0, 1) := by decide +kernel
theorem dX11_keepsFor_10 : decode cX11_keepsFor 10 = .ok (.ireturn, 1) := by decide +kernel
theorem dX11_keepsFor_11 : decode cX11_keepsFor 11 = .ok (.aload_n 0, 1) := by decide +kernel
theorem dX11_keepsFor_12 : decode cX11_keepsFor 12 = .ok (.getfield 47, 3) := by decide +kernel
theorem dX11_keepsFor_15 : decode cX11_keepsFor 15 = .ok (.iload_n 1, 1) := by decide +kernel
theorem dX11_keepsFor_16 : decode cX11_keepsFor 16 = .ok (.iaload, 1) := by decide +kernel
theorem dX11_keepsFor_17 : decode cX11_keepsFor 17 = .ok (.iconst (-1), 1) := by decide +kernel
theorem dX11_keepsFor_18 : decode cX11_keepsFor 18 = .ok (.if_icmp .ne 5, 3) := by decide +kernel
theorem dX11_keepsFor_21 : decode cX11_keepsFor 21 = .ok (.iconst 1, 1) := by decide +kernel
theorem dX11_keepsFor_22 : decode cX11_keepsFor 22 = .ok (.ireturn, 1) := by decide +kernel
theorem dX11_keepsFor_23 : decode cX11_keepsFor 23 = .ok (.aload_n 0, 1) := by decide +kernel
theorem dX11_keepsFor_24 : decode cX11_keepsFor 24 = .ok (.iload_n 1, 1) := by decide +kernel
theorem dX11_keepsFor_25 : decode cX11_keepsFor 25 = .ok (.iload_n 2, 1) := by decide +kernel
theorem dX11_keepsFor_26 : decode cX11_keepsFor 26 = .ok (.invokevirtual 339, 3) := by decide +kernel
theorem dX11_keepsFor_29 : decode cX11_keepsFor 29 = .ok (.aload_n 0, 1) := by decide +kernel
theorem dX11_keepsFor_30 : decode cX11_keepsFor 30 = .ok (.iload_n 1, 1) := by decide +kernel
theorem dX11_keepsFor_31 : decode cX11_keepsFor 31 = .ok (.aload_n 0, 1) := by decide +kernel
theorem dX11_keepsFor_32 : decode cX11_keepsFor 32 = .ok (.getfield 47, 3) := by decide +kernel
theorem dX11_keepsFor_35 : decode cX11_keepsFor 35 = .ok (.iload_n 1, 1) := by decide +kernel
theorem dX11_keepsFor_36 : decode cX11_keepsFor 36 = .ok (.iaload, 1) := by decide +kernel
theorem dX11_keepsFor_37 : decode cX11_keepsFor 37 = .ok (.invokevirtual 339, 3) := by decide +kernel
theorem dX11_keepsFor_40 : decode cX11_keepsFor 40 = .ok (.isub, 1) := by decide +kernel
theorem dX11_keepsFor_41 : decode cX11_keepsFor 41 = .ok (.istore_n 3, 1) := by decide +kernel
theorem dX11_keepsFor_42 : decode cX11_keepsFor 42 = .ok (.iload_n 3, 1) := by decide +kernel
theorem dX11_keepsFor_43 : decode cX11_keepsFor 43 = .ok (.ifCond .gt 17, 3) := by decide +kernel
theorem dX11_keepsFor_46 : decode cX11_keepsFor 46 = .ok (.iload_n 3, 1) := by decide +kernel
theorem dX11_keepsFor_47 : decode cX11_keepsFor 47 = .ok (.ifCond .ne 17, 3) := by decide +kernel
theorem dX11_keepsFor_50 : decode cX11_keepsFor 50 = .ok (.iload_n 2, 1) := by decide +kernel
theorem dX11_keepsFor_51 : decode cX11_keepsFor 51 = .ok (.aload_n 0, 1) := by decide +kernel
theorem dX11_keepsFor_52 : decode cX11_keepsFor 52 = .ok (.getfield 47, 3) := by decide +kernel
theorem dX11_keepsFor_55 : decode cX11_keepsFor 55 = .ok (.iload_n 1, 1) := by decide +kernel
theorem dX11_keepsFor_56 : decode cX11_keepsFor 56 = .ok (.iaload, 1) := by decide +kernel
theorem dX11_keepsFor_57 : decode cX11_keepsFor 57 = .ok (.if_icmp .ge 7, 3) := by decide +kernel
theorem dX11_keepsFor_60 : decode cX11_keepsFor 60 = .ok (.iconst 1, 1) := by decide +kernel
theorem dX11_keepsFor_61 : decode cX11_keepsFor 61 = .ok (.goto 4, 3) := by decide +kernel
theorem dX11_keepsFor_64 : decode cX11_keepsFor 64 = .ok (.iconst 0, 1) := by decide +kernel
theorem dX11_keepsFor_65 : decode cX11_keepsFor 65 = .ok (.ireturn, 1) := by decide +kernel
theorem dX11_asksOn_0 : decode cX11_asksOn 0 = .ok (.iload_n 1, 1) := by decide +kernel
theorem dX11_asksOn_1 : decode cX11_asksOn 1 = .ok (.istore_n 2, 1) := by decide +kernel
theorem dX11_asksOn_2 : decode cX11_asksOn 2 = .ok (.iload_n 2, 1) := by decide +kernel
theorem dX11_asksOn_3 : decode cX11_asksOn 3 = .ok (.iconst (-1), 1) := by decide +kernel
theorem dX11_asksOn_4 : decode cX11_asksOn 4 = .ok (.if_icmp .eq 81, 3) := by decide +kernel
theorem dX11_asksOn_7 : decode cX11_asksOn 7 = .ok (.aload_n 0, 1) := by decide +kernel
theorem dX11_asksOn_8 : decode cX11_asksOn 8 = .ok (.iload_n 2, 1) := by decide +kernel
theorem dX11_asksOn_9 : decode cX11_asksOn 9 = .ok (.invokevirtual 422, 3) := by decide +kernel
theorem dX11_asksOn_12 : decode cX11_asksOn 12 = .ok (.istore_n 3, 1) := by decide +kernel
theorem dX11_asksOn_13 : decode cX11_asksOn 13 = .ok (.iload_n 3, 1) := by decide +kernel
theorem dX11_asksOn_14 : decode cX11_asksOn 14 = .ok (.iconst (-1), 1) := by decide +kernel
theorem dX11_asksOn_15 : decode cX11_asksOn 15 = .ok (.if_icmp .ne 4, 3) := by decide +kernel
theorem dX11_asksOn_18 : decode cX11_asksOn 18 = .ok (.return_, 1) := by decide +kernel
theorem dX11_asksOn_19 : decode cX11_asksOn 19 = .ok (.aload_n 0, 1) := by decide +kernel
theorem dX11_asksOn_20 : decode cX11_asksOn 20 = .ok (.getfield 50, 3) := by decide +kernel
theorem dX11_asksOn_23 : decode cX11_asksOn 23 = .ok (.iload_n 2, 1) := by decide +kernel
theorem dX11_asksOn_24 : decode cX11_asksOn 24 = .ok (.dup2, 1) := by decide +kernel
theorem dX11_asksOn_25 : decode cX11_asksOn 25 = .ok (.iaload, 1) := by decide +kernel
theorem dX11_asksOn_26 : decode cX11_asksOn 26 = .ok (.iconst 1, 1) := by decide +kernel
theorem dX11_asksOn_27 : decode cX11_asksOn 27 = .ok (.iload_n 3, 1) := by decide +kernel
theorem dX11_asksOn_28 : decode cX11_asksOn 28 = .ok (.ishl, 1) := by decide +kernel
theorem dX11_asksOn_29 : decode cX11_asksOn 29 = .ok (.ior, 1) := by decide +kernel
theorem dX11_asksOn_30 : decode cX11_asksOn 30 = .ok (.iastore, 1) := by decide +kernel
theorem dX11_asksOn_31 : decode cX11_asksOn 31 = .ok (.aload_n 0, 1) := by decide +kernel
theorem dX11_asksOn_32 : decode cX11_asksOn 32 = .ok (.iload_n 3, 1) := by decide +kernel
theorem dX11_asksOn_33 : decode cX11_asksOn 33 = .ok (.iload_n 2, 1) := by decide +kernel
theorem dX11_asksOn_34 : decode cX11_asksOn 34 = .ok (.invokevirtual 425, 3) := by decide +kernel
theorem dX11_asksOn_37 : decode cX11_asksOn 37 = .ok (.ifCond .ne 6, 3) := by decide +kernel
theorem dX11_asksOn_40 : decode cX11_asksOn 40 = .ok (.goto (-38), 3) := by decide +kernel
theorem dX11_asksOn_43 : decode cX11_asksOn 43 = .ok (.aload_n 0, 1) := by decide +kernel
theorem dX11_asksOn_44 : decode cX11_asksOn 44 = .ok (.getfield 47, 3) := by decide +kernel
theorem dX11_asksOn_47 : decode cX11_asksOn 47 = .ok (.iload_n 3, 1) := by decide +kernel
theorem dX11_asksOn_48 : decode cX11_asksOn 48 = .ok (.iaload, 1) := by decide +kernel
theorem dX11_asksOn_49 : decode cX11_asksOn 49 = .ok (.istore 4, 2) := by decide +kernel
theorem dX11_asksOn_51 : decode cX11_asksOn 51 = .ok (.aload_n 0, 1) := by decide +kernel
theorem dX11_asksOn_52 : decode cX11_asksOn 52 = .ok (.getfield 47, 3) := by decide +kernel
theorem dX11_asksOn_55 : decode cX11_asksOn 55 = .ok (.iload_n 3, 1) := by decide +kernel
theorem dX11_asksOn_56 : decode cX11_asksOn 56 = .ok (.iload_n 2, 1) := by decide +kernel
theorem dX11_asksOn_57 : decode cX11_asksOn 57 = .ok (.iastore, 1) := by decide +kernel
theorem dX11_asksOn_58 : decode cX11_asksOn 58 = .ok (.aload_n 0, 1) := by decide +kernel
theorem dX11_asksOn_59 : decode cX11_asksOn 59 = .ok (.getfield 47, 3) := by decide +kernel
theorem dX11_asksOn_62 : decode cX11_asksOn 62 = .ok (.iload_n 2, 1) := by decide +kernel
theorem dX11_asksOn_63 : decode cX11_asksOn 63 = .ok (.iload_n 3, 1) := by decide +kernel
theorem dX11_asksOn_64 : decode cX11_asksOn 64 = .ok (.iastore, 1) := by decide +kernel
theorem dX11_asksOn_65 : decode cX11_asksOn 65 = .ok (.iload 4, 2) := by decide +kernel
theorem dX11_asksOn_67 : decode cX11_asksOn 67 = .ok (.iconst (-1), 1) := by decide +kernel
theorem dX11_asksOn_68 : decode cX11_asksOn 68 = .ok (.if_icmp .eq 11, 3) := by decide +kernel
theorem dX11_asksOn_71 : decode cX11_asksOn 71 = .ok (.aload_n 0, 1) := by decide +kernel
theorem dX11_asksOn_72 : decode cX11_asksOn 72 = .ok (.getfield 47, 3) := by decide +kernel
theorem dX11_asksOn_75 : decode cX11_asksOn 75 = .ok (.iload 4, 2) := by decide +kernel
theorem dX11_asksOn_77 : decode cX11_asksOn 77 = .ok (.iconst (-1), 1) := by decide +kernel
theorem dX11_asksOn_78 : decode cX11_asksOn 78 = .ok (.iastore, 1) := by decide +kernel
theorem dX11_asksOn_79 : decode cX11_asksOn 79 = .ok (.iload 4, 2) := by decide +kernel
theorem dX11_asksOn_81 : decode cX11_asksOn 81 = .ok (.istore_n 2, 1) := by decide +kernel
theorem dX11_asksOn_82 : decode cX11_asksOn 82 = .ok (.goto (-80), 3) := by decide +kernel
theorem dX11_asksOn_85 : decode cX11_asksOn 85 = .ok (.return_, 1) := by decide +kernel
theorem dX11_stable_0 : decode cX11_stable 0 = .ok (.aload_n 0, 1) := by decide +kernel
theorem dX11_stable_1 : decode cX11_stable 1 = .ok (.iload_n 1, 1) := by decide +kernel
theorem dX11_stable_2 : decode cX11_stable 2 = .ok (.invokevirtual 97, 3) := by decide +kernel
theorem dX11_stable_5 : decode cX11_stable 5 = .ok (.ifCond .eq 11, 3) := by decide +kernel
theorem dX11_stable_8 : decode cX11_stable 8 = .ok (.aload_n 0, 1) := by decide +kernel
theorem dX11_stable_9 : decode cX11_stable 9 = .ok (.iload_n 1, 1) := by decide +kernel
theorem dX11_stable_10 : decode cX11_stable 10 = .ok (.invokevirtual 351, 3) := by decide +kernel
theorem dX11_stable_13 : decode cX11_stable 13 = .ok (.ifCond .ne 5, 3) := by decide +kernel
theorem dX11_stable_16 : decode cX11_stable 16 = .ok (.iconst (-1), 1) := by decide +kernel
theorem dX11_stable_17 : decode cX11_stable 17 = .ok (.ireturn, 1) := by decide +kernel
theorem dX11_stable_18 : decode cX11_stable 18 = .ok (.iconst 0, 1) := by decide +kernel
theorem dX11_stable_19 : decode cX11_stable 19 = .ok (.istore_n 2, 1) := by decide +kernel
theorem dX11_stable_20 : decode cX11_stable 20 = .ok (.iload_n 2, 1) := by decide +kernel
theorem dX11_stable_21 : decode cX11_stable 21 = .ok (.bipush 12, 2) := by decide +kernel
theorem dX11_stable_23 : decode cX11_stable 23 = .ok (.if_icmp .ge 23, 3) := by decide +kernel
theorem dX11_stable_26 : decode cX11_stable 26 = .ok (.aload_n 0, 1) := by decide +kernel
theorem dX11_stable_27 : decode cX11_stable 27 = .ok (.getfield 47, 3) := by decide +kernel
theorem dX11_stable_30 : decode cX11_stable 30 = .ok (.iload_n 2, 1) := by decide +kernel
theorem dX11_stable_31 : decode cX11_stable 31 = .ok (.iconst (-1), 1) := by decide +kernel
theorem dX11_stable_32 : decode cX11_stable 32 = .ok (.iastore, 1) := by decide +kernel
theorem dX11_stable_33 : decode cX11_stable 33 = .ok (.aload_n 0, 1) := by decide +kernel
theorem dX11_stable_34 : decode cX11_stable 34 = .ok (.getfield 50, 3) := by decide +kernel
theorem dX11_stable_37 : decode cX11_stable 37 = .ok (.iload_n 2, 1) := by decide +kernel
theorem dX11_stable_38 : decode cX11_stable 38 = .ok (.iconst 0, 1) := by decide +kernel
theorem dX11_stable_39 : decode cX11_stable 39 = .ok (.iastore, 1) := by decide +kernel
theorem dX11_stable_40 : decode cX11_stable 40 = .ok (.iinc 2 1, 3) := by decide +kernel
theorem dX11_stable_43 : decode cX11_stable 43 = .ok (.goto (-23), 3) := by decide +kernel
theorem dX11_stable_46 : decode cX11_stable 46 = .ok (.iconst 0, 1) := by decide +kernel
theorem dX11_stable_47 : decode cX11_stable 47 = .ok (.istore_n 2, 1) := by decide +kernel
theorem dX11_stable_48 : decode cX11_stable 48 = .ok (.iload_n 2, 1) := by decide +kernel
theorem dX11_stable_49 : decode cX11_stable 49 = .ok (.aload_n 0, 1) := by decide +kernel
theorem dX11_stable_50 : decode cX11_stable 50 = .ok (.getfield 7, 3) := by decide +kernel
theorem dX11_stable_53 : decode cX11_stable 53 = .ok (.bipush 85, 2) := by decide +kernel
theorem dX11_stable_55 : decode cX11_stable 55 = .ok (.iaload, 1) := by decide +kernel
theorem dX11_stable_56 : decode cX11_stable 56 = .ok (.if_icmp .ge 34, 3) := by decide +kernel
theorem dX11_stable_59 : decode cX11_stable 59 = .ok (.aload_n 0, 1) := by decide +kernel
theorem dX11_stable_60 : decode cX11_stable 60 = .ok (.getfield 7, 3) := by decide +kernel
theorem dX11_stable_63 : decode cX11_stable 63 = .ok (.bipush 91, 2) := by decide +kernel
theorem dX11_stable_65 : decode cX11_stable 65 = .ok (.iload_n 2, 1) := by decide +kernel
theorem dX11_stable_66 : decode cX11_stable 66 = .ok (.iadd, 1) := by decide +kernel
theorem dX11_stable_67 : decode cX11_stable 67 = .ok (.iaload, 1) := by decide +kernel
theorem dX11_stable_68 : decode cX11_stable 68 = .ok (.ifCond .ne 16, 3) := by decide +kernel
theorem dX11_stable_71 : decode cX11_stable 71 = .ok (.aload_n 0, 1) := by decide +kernel
theorem dX11_stable_72 : decode cX11_stable 72 = .ok (.iload_n 2, 1) := by decide +kernel
theorem dX11_stable_73 : decode cX11_stable 73 = .ok (.invokevirtual 351, 3) := by decide +kernel
theorem dX11_stable_76 : decode cX11_stable 76 = .ok (.ifCond .eq 8, 3) := by decide +kernel
theorem dX11_stable_79 : decode cX11_stable 79 = .ok (.aload_n 0, 1) := by decide +kernel
theorem dX11_stable_80 : decode cX11_stable 80 = .ok (.iload_n 2, 1) := by decide +kernel
theorem dX11_stable_81 : decode cX11_stable 81 = .ok (.invokevirtual 428, 3) := by decide +kernel
theorem dX11_stable_84 : decode cX11_stable 84 = .ok (.iinc 2 1, 3) := by decide +kernel
theorem dX11_stable_87 : decode cX11_stable 87 = .ok (.goto (-39), 3) := by decide +kernel
theorem dX11_stable_90 : decode cX11_stable 90 = .ok (.aload_n 0, 1) := by decide +kernel
theorem dX11_stable_91 : decode cX11_stable 91 = .ok (.getfield 47, 3) := by decide +kernel
theorem dX11_stable_94 : decode cX11_stable 94 = .ok (.iload_n 1, 1) := by decide +kernel
theorem dX11_stable_95 : decode cX11_stable 95 = .ok (.iaload, 1) := by decide +kernel
theorem dX11_stable_96 : decode cX11_stable 96 = .ok (.ireturn, 1) := by decide +kernel
theorem dX11_canHave_0 : decode cX11_canHave 0 = .ok (.iload_n 3, 1) := by decide +kernel
theorem dX11_canHave_1 : decode cX11_canHave 1 = .ok (.iload_n 2, 1) := by decide +kernel
theorem dX11_canHave_2 : decode cX11_canHave 2 = .ok (.ishr, 1) := by decide +kernel
theorem dX11_canHave_3 : decode cX11_canHave 3 = .ok (.iconst 1, 1) := by decide +kernel
theorem dX11_canHave_4 : decode cX11_canHave 4 = .ok (.iand, 1) := by decide +kernel
theorem dX11_canHave_5 : decode cX11_canHave 5 = .ok (.iconst 1, 1) := by decide +kernel
theorem dX11_canHave_6 : decode cX11_canHave 6 = .ok (.if_icmp .ne 48, 3) := by decide +kernel
theorem dX11_canHave_9 : decode cX11_canHave 9 = .ok (.aload_n 0, 1) := by decide +kernel
theorem dX11_canHave_10 : decode cX11_canHave 10 = .ok (.getfield 7, 3) := by decide +kernel
theorem dX11_canHave_13 : decode cX11_canHave 13 = .ok (.bipush 91, 2) := by decide +kernel
theorem dX11_canHave_15 : decode cX11_canHave 15 = .ok (.iload_n 1, 1) := by decide +kernel
theorem dX11_canHave_16 : decode cX11_canHave 16 = .ok (.iadd, 1) := by decide +kernel
theorem dX11_canHave_17 : decode cX11_canHave 17 = .ok (.iaload, 1) := by decide +kernel
theorem dX11_canHave_18 : decode cX11_canHave 18 = .ok (.ifCond .ne 36, 3) := by decide +kernel
theorem dX11_canHave_21 : decode cX11_canHave 21 = .ok (.aload_n 0, 1) := by decide +kernel
theorem dX11_canHave_22 : decode cX11_canHave 22 = .ok (.getfield 7, 3) := by decide +kernel
theorem dX11_canHave_25 : decode cX11_canHave 25 = .ok (.bipush 91, 2) := by decide +kernel
theorem dX11_canHave_27 : decode cX11_canHave 27 = .ok (.iload_n 2, 1) := by decide +kernel
theorem dX11_canHave_28 : decode cX11_canHave 28 = .ok (.iadd, 1) := by decide +kernel
theorem dX11_canHave_29 : decode cX11_canHave 29 = .ok (.iaload, 1) := by decide +kernel
theorem dX11_canHave_30 : decode cX11_canHave 30 = .ok (.iconst 1, 1) := by decide +kernel
theorem dX11_canHave_31 : decode cX11_canHave 31 = .ok (.if_icmp .ne 23, 3) := by decide +kernel
theorem dX11_canHave_34 : decode cX11_canHave 34 = .ok (.aload_n 0, 1) := by decide +kernel
theorem dX11_canHave_35 : decode cX11_canHave 35 = .ok (.iload_n 1, 1) := by decide +kernel
theorem dX11_canHave_36 : decode cX11_canHave 36 = .ok (.invokevirtual 351, 3) := by decide +kernel
theorem dX11_canHave_39 : decode cX11_canHave 39 = .ok (.ifCond .eq 15, 3) := by decide +kernel
theorem dX11_canHave_42 : decode cX11_canHave 42 = .ok (.aload_n 0, 1) := by decide +kernel
theorem dX11_canHave_43 : decode cX11_canHave 43 = .ok (.iload_n 2, 1) := by decide +kernel
theorem dX11_canHave_44 : decode cX11_canHave 44 = .ok (.invokevirtual 351, 3) := by decide +kernel
theorem dX11_canHave_47 : decode cX11_canHave 47 = .ok (.ifCond .eq 7, 3) := by decide +kernel
theorem dX11_canHave_50 : decode cX11_canHave 50 = .ok (.iconst 1, 1) := by decide +kernel
theorem dX11_canHave_51 : decode cX11_canHave 51 = .ok (.goto 4, 3) := by decide +kernel
theorem dX11_canHave_54 : decode cX11_canHave 54 = .ok (.iconst 0, 1) := by decide +kernel
theorem dX11_canHave_55 : decode cX11_canHave 55 = .ok (.ireturn, 1) := by decide +kernel
theorem dX11_laysBest_0 : decode cX11_laysBest 0 = .ok (.aload_n 0, 1) := by decide +kernel
theorem dX11_laysBest_1 : decode cX11_laysBest 1 = .ok (.getfield 7, 3) := by decide +kernel
theorem dX11_laysBest_4 : decode cX11_laysBest 4 = .ok (.bipush 85, 2) := by decide +kernel
theorem dX11_laysBest_6 : decode cX11_laysBest 6 = .ok (.iaload, 1) := by decide +kernel
theorem dX11_laysBest_7 : decode cX11_laysBest 7 = .ok (.istore_n 1, 1) := by decide +kernel
theorem dX11_laysBest_8 : decode cX11_laysBest 8 = .ok (.iload_n 1, 1) := by decide +kernel
theorem dX11_laysBest_9 : decode cX11_laysBest 9 = .ok (.istore_n 2, 1) := by decide +kernel
theorem dX11_laysBest_10 : decode cX11_laysBest 10 = .ok (.iload_n 2, 1) := by decide +kernel
theorem dX11_laysBest_11 : decode cX11_laysBest 11 = .ok (.ifCond .lt 135, 3) := by decide +kernel
theorem dX11_laysBest_14 : decode cX11_laysBest 14 = .ok (.iconst 0, 1) := by decide +kernel
theorem dX11_laysBest_15 : decode cX11_laysBest 15 = .ok (.istore_n 3, 1) := by decide +kernel
theorem dX11_laysBest_16 : decode cX11_laysBest 16 = .ok (.iload_n 3, 1) := by decide +kernel
theorem dX11_laysBest_17 : decode cX11_laysBest 17 = .ok (.iconst 1, 1) := by decide +kernel
theorem dX11_laysBest_18 : decode cX11_laysBest 18 = .ok (.iload_n 1, 1) := by decide +kernel
theorem dX11_laysBest_19 : decode cX11_laysBest 19 = .ok (.ishl, 1) := by decide +kernel
theorem dX11_laysBest_20 : decode cX11_laysBest 20 = .ok (.if_icmp .ge 120, 3) := by decide +kernel
theorem dX11_laysBest_23 : decode cX11_laysBest 23 = .ok (.iload_n 2, 1) := by decide +kernel
theorem dX11_laysBest_24 : decode cX11_laysBest 24 = .ok (.iload_n 1, 1) := by decide +kernel
theorem dX11_laysBest_25 : decode cX11_laysBest 25 = .ok (.if_icmp .ne 7, 3) := by decide +kernel
theorem dX11_laysBest_28 : decode cX11_laysBest 28 = .ok (.iconst 0, 1) := by decide +kernel
theorem dX11_laysBest_29 : decode cX11_laysBest 29 = .ok (.goto 17, 3) := by decide +kernel
theorem dX11_laysBest_32 : decode cX11_laysBest 32 = .ok (.aload_n 0, 1) := by decide +kernel
theorem dX11_laysBest_33 : decode cX11_laysBest 33 = .ok (.getfield 54, 3) := by decide +kernel
theorem dX11_laysBest_36 : decode cX11_laysBest 36 = .ok (.sipush 4096, 3) := by decide +kernel
theorem dX11_laysBest_39 : decode cX11_laysBest 39 = .ok (.iload_n 2, 1) := by decide +kernel
theorem dX11_laysBest_40 : decode cX11_laysBest 40 = .ok (.iconst 1, 1) := by decide +kernel
theorem dX11_laysBest_41 : decode cX11_laysBest 41 = .ok (.iadd, 1) := by decide +kernel
theorem dX11_laysBest_42 : decode cX11_laysBest 42 = .ok (.imul, 1) := by decide +kernel
theorem dX11_laysBest_43 : decode cX11_laysBest 43 = .ok (.iload_n 3, 1) := by decide +kernel
theorem dX11_laysBest_44 : decode cX11_laysBest 44 = .ok (.iadd, 1) := by decide +kernel
theorem dX11_laysBest_45 : decode cX11_laysBest 45 = .ok (.iaload, 1) := by decide +kernel
theorem dX11_laysBest_46 : decode cX11_laysBest 46 = .ok (.istore 4, 2) := by decide +kernel
theorem dX11_laysBest_48 : decode cX11_laysBest 48 = .ok (.iconst 0, 1) := by decide +kernel
theorem dX11_laysBest_49 : decode cX11_laysBest 49 = .ok (.istore 5, 2) := by decide +kernel
theorem dX11_laysBest_51 : decode cX11_laysBest 51 = .ok (.iload 5, 2) := by decide +kernel
theorem dX11_laysBest_53 : decode cX11_laysBest 53 = .ok (.iload_n 1, 1) := by decide +kernel
theorem dX11_laysBest_54 : decode cX11_laysBest 54 = .ok (.if_icmp .ge 66, 3) := by decide +kernel
theorem dX11_laysBest_57 : decode cX11_laysBest 57 = .ok (.iload_n 2, 1) := by decide +kernel
theorem dX11_laysBest_58 : decode cX11_laysBest 58 = .ok (.iload_n 1, 1) := by decide +kernel
theorem dX11_laysBest_59 : decode cX11_laysBest 59 = .ok (.if_icmp .ge 61, 3) := by decide +kernel
theorem dX11_laysBest_62 : decode cX11_laysBest 62 = .ok (.aload_n 0, 1) := by decide +kernel
theorem dX11_laysBest_63 : decode cX11_laysBest 63 = .ok (.iload_n 2, 1) := by decide +kernel
theorem dX11_laysBest_64 : decode cX11_laysBest 64 = .ok (.iload 5, 2) := by decide +kernel
theorem dX11_laysBest_66 : decode cX11_laysBest 66 = .ok (.iload_n 3, 1) := by decide +kernel
theorem dX11_laysBest_67 : decode cX11_laysBest 67 = .ok (.invokevirtual 432, 3) := by decide +kernel
theorem dX11_laysBest_70 : decode cX11_laysBest 70 = .ok (.ifCond .eq 44, 3) := by decide +kernel
theorem dX11_laysBest_73 : decode cX11_laysBest 73 = .ok (.iload 4, 2) := by decide +kernel
theorem dX11_laysBest_75 : decode cX11_laysBest 75 = .ok (.aload_n 0, 1) := by decide +kernel
theorem dX11_laysBest_76 : decode cX11_laysBest 76 = .ok (.getfield 57, 3) := by decide +kernel
theorem dX11_laysBest_79 : decode cX11_laysBest 79 = .ok (.bipush 12, 2) := by decide +kernel
theorem dX11_laysBest_81 : decode cX11_laysBest 81 = .ok (.iload_n 2, 1) := by decide +kernel
theorem dX11_laysBest_82 : decode cX11_laysBest 82 = .ok (.imul, 1) := by decide +kernel
theorem dX11_laysBest_83 : decode cX11_laysBest 83 = .ok (.iload 5, 2) := by decide +kernel
theorem dX11_laysBest_85 : decode cX11_laysBest 85 = .ok (.iadd, 1) := by decide +kernel
theorem dX11_laysBest_86 : decode cX11_laysBest 86 = .ok (.iaload, 1) := by decide +kernel
theorem dX11_laysBest_87 : decode cX11_laysBest 87 = .ok (.aload_n 0, 1) := by decide +kernel
theorem dX11_laysBest_88 : decode cX11_laysBest 88 = .ok (.getfield 54, 3) := by decide +kernel
theorem dX11_laysBest_91 : decode cX11_laysBest 91 = .ok (.sipush 4096, 3) := by decide +kernel
theorem dX11_laysBest_94 : decode cX11_laysBest 94 = .ok (.iload_n 2, 1) := by decide +kernel
theorem dX11_laysBest_95 : decode cX11_laysBest 95 = .ok (.iconst 1, 1) := by decide +kernel
theorem dX11_laysBest_96 : decode cX11_laysBest 96 = .ok (.iadd, 1) := by decide +kernel
theorem dX11_laysBest_97 : decode cX11_laysBest 97 = .ok (.imul, 1) := by decide +kernel
theorem dX11_laysBest_98 : decode cX11_laysBest 98 = .ok (.iload_n 3, 1) := by decide +kernel
theorem dX11_laysBest_99 : decode cX11_laysBest 99 = .ok (.iconst 1, 1) := by decide +kernel
theorem dX11_laysBest_100 : decode cX11_laysBest 100 = .ok (.iload 5, 2) := by decide +kernel
theorem dX11_laysBest_102 : decode cX11_laysBest 102 = .ok (.ishl, 1) := by decide +kernel
theorem dX11_laysBest_103 : decode cX11_laysBest 103 = .ok (.iconst (-1), 1) := by decide +kernel
theorem dX11_laysBest_104 : decode cX11_laysBest 104 = .ok (.ixor, 1) := by decide +kernel
theorem dX11_laysBest_105 : decode cX11_laysBest 105 = .ok (.iand, 1) := by decide +kernel
theorem dX11_laysBest_106 : decode cX11_laysBest 106 = .ok (.iadd, 1) := by decide +kernel
theorem dX11_laysBest_107 : decode cX11_laysBest 107 = .ok (.iaload, 1) := by decide +kernel
theorem dX11_laysBest_108 : decode cX11_laysBest 108 = .ok (.iadd, 1) := by decide +kernel
theorem dX11_laysBest_109 : decode cX11_laysBest 109 = .ok (.invokestatic 327, 3) := by decide +kernel
theorem dX11_laysBest_112 : decode cX11_laysBest 112 = .ok (.istore 4, 2) := by decide +kernel
theorem dX11_laysBest_114 : decode cX11_laysBest 114 = .ok (.iinc 5 1, 3) := by decide +kernel
theorem dX11_laysBest_117 : decode cX11_laysBest 117 = .ok (.goto (-66), 3) := by decide +kernel
theorem dX11_laysBest_120 : decode cX11_laysBest 120 = .ok (.aload_n 0, 1) := by decide +kernel
theorem dX11_laysBest_121 : decode cX11_laysBest 121 = .ok (.getfield 54, 3) := by decide +kernel
theorem dX11_laysBest_124 : decode cX11_laysBest 124 = .ok (.sipush 4096, 3) := by decide +kernel
theorem dX11_laysBest_127 : decode cX11_laysBest 127 = .ok (.iload_n 2, 1) := by decide +kernel
theorem dX11_laysBest_128 : decode cX11_laysBest 128 = .ok (.imul, 1) := by decide +kernel
theorem dX11_laysBest_129 : decode cX11_laysBest 129 = .ok (.iload_n 3, 1) := by decide +kernel
theorem dX11_laysBest_130 : decode cX11_laysBest 130 = .ok (.iadd, 1) := by decide +kernel
theorem dX11_laysBest_131 : decode cX11_laysBest 131 = .ok (.iload 4, 2) := by decide +kernel
theorem dX11_laysBest_133 : decode cX11_laysBest 133 = .ok (.iastore, 1) := by decide +kernel
theorem dX11_laysBest_134 : decode cX11_laysBest 134 = .ok (.iinc 3 1, 3) := by decide +kernel
theorem dX11_laysBest_137 : decode cX11_laysBest 137 = .ok (.goto (-121), 3) := by decide +kernel
theorem dX11_laysBest_140 : decode cX11_laysBest 140 = .ok (.iinc 2 (-1), 3) := by decide +kernel
theorem dX11_laysBest_143 : decode cX11_laysBest 143 = .ok (.goto (-133), 3) := by decide +kernel
theorem dX11_laysBest_146 : decode cX11_laysBest 146 = .ok (.return_, 1) := by decide +kernel
theorem dX11_laysFound_0 : decode cX11_laysFound 0 = .ok (.iconst 0, 1) := by decide +kernel
theorem dX11_laysFound_1 : decode cX11_laysFound 1 = .ok (.istore_n 1, 1) := by decide +kernel
theorem dX11_laysFound_2 : decode cX11_laysFound 2 = .ok (.iload_n 1, 1) := by decide +kernel
theorem dX11_laysFound_3 : decode cX11_laysFound 3 = .ok (.aload_n 0, 1) := by decide +kernel
theorem dX11_laysFound_4 : decode cX11_laysFound 4 = .ok (.getfield 7, 3) := by decide +kernel
theorem dX11_laysFound_7 : decode cX11_laysFound 7 = .ok (.bipush 85, 2) := by decide +kernel
theorem dX11_laysFound_9 : decode cX11_laysFound 9 = .ok (.iaload, 1) := by decide +kernel
theorem dX11_laysFound_10 : decode cX11_laysFound 10 = .ok (.if_icmp .ge 54, 3) := by decide +kernel
theorem dX11_laysFound_13 : decode cX11_laysFound 13 = .ok (.iconst 0, 1) := by decide +kernel
theorem dX11_laysFound_14 : decode cX11_laysFound 14 = .ok (.istore_n 2, 1) := by decide +kernel
theorem dX11_laysFound_15 : decode cX11_laysFound 15 = .ok (.iload_n 2, 1) := by decide +kernel
theorem dX11_laysFound_16 : decode cX11_laysFound 16 = .ok (.aload_n 0, 1) := by decide +kernel
theorem dX11_laysFound_17 : decode cX11_laysFound 17 = .ok (.getfield 7, 3) := by decide +kernel
theorem dX11_laysFound_20 : decode cX11_laysFound 20 = .ok (.bipush 85, 2) := by decide +kernel
theorem dX11_laysFound_22 : decode cX11_laysFound 22 = .ok (.iaload, 1) := by decide +kernel
theorem dX11_laysFound_23 : decode cX11_laysFound 23 = .ok (.if_icmp .ge 35, 3) := by decide +kernel
theorem dX11_laysFound_26 : decode cX11_laysFound 26 = .ok (.aload_n 0, 1) := by decide +kernel
theorem dX11_laysFound_27 : decode cX11_laysFound 27 = .ok (.getfield 57, 3) := by decide +kernel
theorem dX11_laysFound_30 : decode cX11_laysFound 30 = .ok (.bipush 12, 2) := by decide +kernel
theorem dX11_laysFound_32 : decode cX11_laysFound 32 = .ok (.iload_n 1, 1) := by decide +kernel
theorem dX11_laysFound_33 : decode cX11_laysFound 33 = .ok (.imul, 1) := by decide +kernel
theorem dX11_laysFound_34 : decode cX11_laysFound 34 = .ok (.iload_n 2, 1) := by decide +kernel
theorem dX11_laysFound_35 : decode cX11_laysFound 35 = .ok (.iadd, 1) := by decide +kernel
theorem dX11_laysFound_36 : decode cX11_laysFound 36 = .ok (.iload_n 1, 1) := by decide +kernel
theorem dX11_laysFound_37 : decode cX11_laysFound 37 = .ok (.iload_n 2, 1) := by decide +kernel
theorem dX11_laysFound_38 : decode cX11_laysFound 38 = .ok (.if_icmp .ne 7, 3) := by decide +kernel
theorem dX11_laysFound_41 : decode cX11_laysFound 41 = .ok (.iconst 0, 1) := by decide +kernel
theorem dX11_laysFound_42 : decode cX11_laysFound 42 = .ok (.goto 9, 3) := by decide +kernel
theorem dX11_laysFound_45 : decode cX11_laysFound 45 = .ok (.aload_n 0, 1) := by decide +kernel
theorem dX11_laysFound_46 : decode cX11_laysFound 46 = .ok (.iload_n 1, 1) := by decide +kernel
theorem dX11_laysFound_47 : decode cX11_laysFound 47 = .ok (.iload_n 2, 1) := by decide +kernel
theorem dX11_laysFound_48 : decode cX11_laysFound 48 = .ok (.invokevirtual 342, 3) := by decide +kernel
theorem dX11_laysFound_51 : decode cX11_laysFound 51 = .ok (.iastore, 1) := by decide +kernel
theorem dX11_laysFound_52 : decode cX11_laysFound 52 = .ok (.iinc 2 1, 3) := by decide +kernel
theorem dX11_laysFound_55 : decode cX11_laysFound 55 = .ok (.goto (-40), 3) := by decide +kernel
theorem dX11_laysFound_58 : decode cX11_laysFound 58 = .ok (.iinc 1 1, 3) := by decide +kernel
theorem dX11_laysFound_61 : decode cX11_laysFound 61 = .ok (.goto (-59), 3) := by decide +kernel
theorem dX11_laysFound_64 : decode cX11_laysFound 64 = .ok (.return_, 1) := by decide +kernel
theorem dX11_takenBy_0 : decode cX11_takenBy 0 = .ok (.iconst 0, 1) := by decide +kernel
theorem dX11_takenBy_1 : decode cX11_takenBy 1 = .ok (.istore_n 3, 1) := by decide +kernel
theorem dX11_takenBy_2 : decode cX11_takenBy 2 = .ok (.iload_n 3, 1) := by decide +kernel
theorem dX11_takenBy_3 : decode cX11_takenBy 3 = .ok (.aload_n 0, 1) := by decide +kernel
theorem dX11_takenBy_4 : decode cX11_takenBy 4 = .ok (.getfield 7, 3) := by decide +kernel
theorem dX11_takenBy_7 : decode cX11_takenBy 7 = .ok (.bipush 85, 2) := by decide +kernel
theorem dX11_takenBy_9 : decode cX11_takenBy 9 = .ok (.iaload, 1) := by decide +kernel
theorem dX11_takenBy_10 : decode cX11_takenBy 10 = .ok (.if_icmp .ge 68, 3) := by decide +kernel
theorem dX11_takenBy_13 : decode cX11_takenBy 13 = .ok (.aload_n 0, 1) := by decide +kernel
theorem dX11_takenBy_14 : decode cX11_takenBy 14 = .ok (.iload_n 1, 1) := by decide +kernel
theorem dX11_takenBy_15 : decode cX11_takenBy 15 = .ok (.iload_n 3, 1) := by decide +kernel
theorem dX11_takenBy_16 : decode cX11_takenBy 16 = .ok (.iload_n 2, 1) := by decide +kernel
theorem dX11_takenBy_17 : decode cX11_takenBy 17 = .ok (.invokevirtual 432, 3) := by decide +kernel
theorem dX11_takenBy_20 : decode cX11_takenBy 20 = .ok (.ifCond .eq 52, 3) := by decide +kernel
theorem dX11_takenBy_23 : decode cX11_takenBy 23 = .ok (.aload_n 0, 1) := by decide +kernel
theorem dX11_takenBy_24 : decode cX11_takenBy 24 = .ok (.getfield 57, 3) := by decide +kernel
theorem dX11_takenBy_27 : decode cX11_takenBy 27 = .ok (.bipush 12, 2) := by decide +kernel
theorem dX11_takenBy_29 : decode cX11_takenBy 29 = .ok (.iload_n 1, 1) := by decide +kernel
theorem dX11_takenBy_30 : decode cX11_takenBy 30 = .ok (.imul, 1) := by decide +kernel
theorem dX11_takenBy_31 : decode cX11_takenBy 31 = .ok (.iload_n 3, 1) := by decide +kernel
theorem dX11_takenBy_32 : decode cX11_takenBy 32 = .ok (.iadd, 1) := by decide +kernel
theorem dX11_takenBy_33 : decode cX11_takenBy 33 = .ok (.iaload, 1) := by decide +kernel
theorem dX11_takenBy_34 : decode cX11_takenBy 34 = .ok (.aload_n 0, 1) := by decide +kernel
theorem dX11_takenBy_35 : decode cX11_takenBy 35 = .ok (.getfield 54, 3) := by decide +kernel
theorem dX11_takenBy_38 : decode cX11_takenBy 38 = .ok (.sipush 4096, 3) := by decide +kernel
theorem dX11_takenBy_41 : decode cX11_takenBy 41 = .ok (.iload_n 1, 1) := by decide +kernel
theorem dX11_takenBy_42 : decode cX11_takenBy 42 = .ok (.iconst 1, 1) := by decide +kernel
theorem dX11_takenBy_43 : decode cX11_takenBy 43 = .ok (.iadd, 1) := by decide +kernel
theorem dX11_takenBy_44 : decode cX11_takenBy 44 = .ok (.imul, 1) := by decide +kernel
theorem dX11_takenBy_45 : decode cX11_takenBy 45 = .ok (.iload_n 2, 1) := by decide +kernel
theorem dX11_takenBy_46 : decode cX11_takenBy 46 = .ok (.iconst 1, 1) := by decide +kernel
theorem dX11_takenBy_47 : decode cX11_takenBy 47 = .ok (.iload_n 3, 1) := by decide +kernel
theorem dX11_takenBy_48 : decode cX11_takenBy 48 = .ok (.ishl, 1) := by decide +kernel
theorem dX11_takenBy_49 : decode cX11_takenBy 49 = .ok (.iconst (-1), 1) := by decide +kernel
theorem dX11_takenBy_50 : decode cX11_takenBy 50 = .ok (.ixor, 1) := by decide +kernel
theorem dX11_takenBy_51 : decode cX11_takenBy 51 = .ok (.iand, 1) := by decide +kernel
theorem dX11_takenBy_52 : decode cX11_takenBy 52 = .ok (.iadd, 1) := by decide +kernel
theorem dX11_takenBy_53 : decode cX11_takenBy 53 = .ok (.iaload, 1) := by decide +kernel
theorem dX11_takenBy_54 : decode cX11_takenBy 54 = .ok (.iadd, 1) := by decide +kernel
theorem dX11_takenBy_55 : decode cX11_takenBy 55 = .ok (.aload_n 0, 1) := by decide +kernel
theorem dX11_takenBy_56 : decode cX11_takenBy 56 = .ok (.getfield 54, 3) := by decide +kernel
theorem dX11_takenBy_59 : decode cX11_takenBy 59 = .ok (.sipush 4096, 3) := by decide +kernel
theorem dX11_takenBy_62 : decode cX11_takenBy 62 = .ok (.iload_n 1, 1) := by decide +kernel
theorem dX11_takenBy_63 : decode cX11_takenBy 63 = .ok (.imul, 1) := by decide +kernel
theorem dX11_takenBy_64 : decode cX11_takenBy 64 = .ok (.iload_n 2, 1) := by decide +kernel
theorem dX11_takenBy_65 : decode cX11_takenBy 65 = .ok (.iadd, 1) := by decide +kernel
theorem dX11_takenBy_66 : decode cX11_takenBy 66 = .ok (.iaload, 1) := by decide +kernel
theorem dX11_takenBy_67 : decode cX11_takenBy 67 = .ok (.if_icmp .ne 5, 3) := by decide +kernel
theorem dX11_takenBy_70 : decode cX11_takenBy 70 = .ok (.iload_n 3, 1) := by decide +kernel
theorem dX11_takenBy_71 : decode cX11_takenBy 71 = .ok (.ireturn, 1) := by decide +kernel
theorem dX11_takenBy_72 : decode cX11_takenBy 72 = .ok (.iinc 3 1, 3) := by decide +kernel
theorem dX11_takenBy_75 : decode cX11_takenBy 75 = .ok (.goto (-73), 3) := by decide +kernel
theorem dX11_takenBy_78 : decode cX11_takenBy 78 = .ok (.iconst (-1), 1) := by decide +kernel
theorem dX11_takenBy_79 : decode cX11_takenBy 79 = .ok (.ireturn, 1) := by decide +kernel
theorem dX11_best_0 : decode cX11_best 0 = .ok (.iload_n 1, 1) := by decide +kernel
theorem dX11_best_1 : decode cX11_best 1 = .ok (.ifCond .eq 24, 3) := by decide +kernel
theorem dX11_best_4 : decode cX11_best 4 = .ok (.iload_n 1, 1) := by decide +kernel
theorem dX11_best_5 : decode cX11_best 5 = .ok (.bipush 10, 2) := by decide +kernel
theorem dX11_best_7 : decode cX11_best 7 = .ok (.bipush 9, 2) := by decide +kernel
theorem dX11_best_9 : decode cX11_best 9 = .ok (.aload_n 0, 1) := by decide +kernel
theorem dX11_best_10 : decode cX11_best 10 = .ok (.getfield 7, 3) := by decide +kernel
theorem dX11_best_13 : decode cX11_best 13 = .ok (.bipush 85, 2) := by decide +kernel
theorem dX11_best_15 : decode cX11_best 15 = .ok (.iaload, 1) := by decide +kernel
theorem dX11_best_16 : decode cX11_best 16 = .ok (.iadd, 1) := by decide +kernel
theorem dX11_best_17 : decode cX11_best 17 = .ok (.invokestatic 89, 3) := by decide +kernel
theorem dX11_best_20 : decode cX11_best 20 = .ok (.ifCond .ne 5, 3) := by decide +kernel
theorem dX11_best_23 : decode cX11_best 23 = .ok (.iconst (-1), 1) := by decide +kernel
theorem dX11_best_24 : decode cX11_best 24 = .ok (.ireturn, 1) := by decide +kernel
theorem dX11_best_25 : decode cX11_best 25 = .ok (.aload_n 0, 1) := by decide +kernel
theorem dX11_best_26 : decode cX11_best 26 = .ok (.invokevirtual 435, 3) := by decide +kernel
theorem dX11_best_29 : decode cX11_best 29 = .ok (.aload_n 0, 1) := by decide +kernel
theorem dX11_best_30 : decode cX11_best 30 = .ok (.invokevirtual 438, 3) := by decide +kernel
theorem dX11_best_33 : decode cX11_best 33 = .ok (.iconst 1, 1) := by decide +kernel
theorem dX11_best_34 : decode cX11_best 34 = .ok (.aload_n 0, 1) := by decide +kernel
theorem dX11_best_35 : decode cX11_best 35 = .ok (.getfield 7, 3) := by decide +kernel
theorem dX11_best_38 : decode cX11_best 38 = .ok (.bipush 85, 2) := by decide +kernel
theorem dX11_best_40 : decode cX11_best 40 = .ok (.iaload, 1) := by decide +kernel
theorem dX11_best_41 : decode cX11_best 41 = .ok (.ishl, 1) := by decide +kernel
theorem dX11_best_42 : decode cX11_best 42 = .ok (.iconst 1, 1) := by decide +kernel
theorem dX11_best_43 : decode cX11_best 43 = .ok (.isub, 1) := by decide +kernel
theorem dX11_best_44 : decode cX11_best 44 = .ok (.istore_n 2, 1) := by decide +kernel
theorem dX11_best_45 : decode cX11_best 45 = .ok (.iload_n 1, 1) := by decide +kernel
theorem dX11_best_46 : decode cX11_best 46 = .ok (.ifCond .ne 10, 3) := by decide +kernel
theorem dX11_best_49 : decode cX11_best 49 = .ok (.aload_n 0, 1) := by decide +kernel
theorem dX11_best_50 : decode cX11_best 50 = .ok (.getfield 54, 3) := by decide +kernel
theorem dX11_best_53 : decode cX11_best 53 = .ok (.iload_n 2, 1) := by decide +kernel
theorem dX11_best_54 : decode cX11_best 54 = .ok (.iaload, 1) := by decide +kernel
theorem dX11_best_55 : decode cX11_best 55 = .ok (.ireturn, 1) := by decide +kernel
theorem dX11_best_56 : decode cX11_best 56 = .ok (.iconst (-1), 1) := by decide +kernel
theorem dX11_best_57 : decode cX11_best 57 = .ok (.istore_n 3, 1) := by decide +kernel
theorem dX11_best_58 : decode cX11_best 58 = .ok (.iconst 0, 1) := by decide +kernel
theorem dX11_best_59 : decode cX11_best 59 = .ok (.istore 4, 2) := by decide +kernel
theorem dX11_best_61 : decode cX11_best 61 = .ok (.iload 4, 2) := by decide +kernel
theorem dX11_best_63 : decode cX11_best 63 = .ok (.aload_n 0, 1) := by decide +kernel
theorem dX11_best_64 : decode cX11_best 64 = .ok (.getfield 7, 3) := by decide +kernel
theorem dX11_best_67 : decode cX11_best 67 = .ok (.bipush 85, 2) := by decide +kernel
theorem dX11_best_69 : decode cX11_best 69 = .ok (.iaload, 1) := by decide +kernel
theorem dX11_best_70 : decode cX11_best 70 = .ok (.if_icmp .ge 74, 3) := by decide +kernel
theorem dX11_best_73 : decode cX11_best 73 = .ok (.aload_n 0, 1) := by decide +kernel
theorem dX11_best_74 : decode cX11_best 74 = .ok (.iload 4, 2) := by decide +kernel
theorem dX11_best_76 : decode cX11_best 76 = .ok (.iload_n 2, 1) := by decide +kernel
theorem dX11_best_77 : decode cX11_best 77 = .ok (.invokevirtual 441, 3) := by decide +kernel
theorem dX11_best_80 : decode cX11_best 80 = .ok (.istore 5, 2) := by decide +kernel
theorem dX11_best_82 : decode cX11_best 82 = .ok (.iload_n 2, 1) := by decide +kernel
theorem dX11_best_83 : decode cX11_best 83 = .ok (.iload 5, 2) := by decide +kernel
theorem dX11_best_85 : decode cX11_best 85 = .ok (.iconst (-1), 1) := by decide +kernel
theorem dX11_best_86 : decode cX11_best 86 = .ok (.if_icmp .ne 7, 3) := by decide +kernel
theorem dX11_best_89 : decode cX11_best 89 = .ok (.iload_n 2, 1) := by decide +kernel
theorem dX11_best_90 : decode cX11_best 90 = .ok (.goto 9, 3) := by decide +kernel
theorem dX11_best_93 : decode cX11_best 93 = .ok (.iconst 1, 1) := by decide +kernel
theorem dX11_best_94 : decode cX11_best 94 = .ok (.iload 5, 2) := by decide +kernel
theorem dX11_best_96 : decode cX11_best 96 = .ok (.ishl, 1) := by decide +kernel
theorem dX11_best_97 : decode cX11_best 97 = .ok (.iconst (-1), 1) := by decide +kernel
theorem dX11_best_98 : decode cX11_best 98 = .ok (.ixor, 1) := by decide +kernel
theorem dX11_best_99 : decode cX11_best 99 = .ok (.iand, 1) := by decide +kernel
theorem dX11_best_100 : decode cX11_best 100 = .ok (.istore_n 2, 1) := by decide +kernel
theorem dX11_best_101 : decode cX11_best 101 = .ok (.iload_n 1, 1) := by decide +kernel
theorem dX11_best_102 : decode cX11_best 102 = .ok (.bipush 10, 2) := by decide +kernel
theorem dX11_best_104 : decode cX11_best 104 = .ok (.isub, 1) := by decide +kernel
theorem dX11_best_105 : decode cX11_best 105 = .ok (.iload 4, 2) := by decide +kernel
theorem dX11_best_107 : decode cX11_best 107 = .ok (.if_icmp .ne 19, 3) := by decide +kernel
theorem dX11_best_110 : decode cX11_best 110 = .ok (.aload_n 0, 1) := by decide +kernel
theorem dX11_best_111 : decode cX11_best 111 = .ok (.getfield 7, 3) := by decide +kernel
theorem dX11_best_114 : decode cX11_best 114 = .ok (.bipush 91, 2) := by decide +kernel
theorem dX11_best_116 : decode cX11_best 116 = .ok (.iload 4, 2) := by decide +kernel
theorem dX11_best_118 : decode cX11_best 118 = .ok (.iadd, 1) := by decide +kernel
theorem dX11_best_119 : decode cX11_best 119 = .ok (.iaload, 1) := by decide +kernel
theorem dX11_best_120 : decode cX11_best 120 = .ok (.ifCond .ne 6, 3) := by decide +kernel
theorem dX11_best_123 : decode cX11_best 123 = .ok (.iload 5, 2) := by decide +kernel
theorem dX11_best_125 : decode cX11_best 125 = .ok (.istore_n 3, 1) := by decide +kernel
theorem dX11_best_126 : decode cX11_best 126 = .ok (.iload_n 1, 1) := by decide +kernel
theorem dX11_best_127 : decode cX11_best 127 = .ok (.bipush 10, 2) := by decide +kernel
theorem dX11_best_129 : decode cX11_best 129 = .ok (.isub, 1) := by decide +kernel
theorem dX11_best_130 : decode cX11_best 130 = .ok (.iload 5, 2) := by decide +kernel
theorem dX11_best_132 : decode cX11_best 132 = .ok (.if_icmp .ne 6, 3) := by decide +kernel
theorem dX11_best_135 : decode cX11_best 135 = .ok (.iload 4, 2) := by decide +kernel
theorem dX11_best_137 : decode cX11_best 137 = .ok (.istore_n 3, 1) := by decide +kernel
theorem dX11_best_138 : decode cX11_best 138 = .ok (.iinc 4 1, 3) := by decide +kernel
theorem dX11_best_141 : decode cX11_best 141 = .ok (.goto (-80), 3) := by decide +kernel
theorem dX11_best_144 : decode cX11_best 144 = .ok (.iload_n 3, 1) := by decide +kernel
theorem dX11_best_145 : decode cX11_best 145 = .ok (.ireturn, 1) := by decide +kernel
theorem dX11_bares_0 : decode cX11_bares 0 = .ok (.aload_n 0, 1) := by decide +kernel
theorem dX11_bares_1 : decode cX11_bares 1 = .ok (.iload_n 1, 1) := by decide +kernel
theorem dX11_bares_2 : decode cX11_bares 2 = .ok (.invokevirtual 82, 3) := by decide +kernel
theorem dX11_bares_5 : decode cX11_bares 5 = .ok (.ifCond .eq 12, 3) := by decide +kernel
theorem dX11_bares_8 : decode cX11_bares 8 = .ok (.iload_n 2, 1) := by decide +kernel
theorem dX11_bares_9 : decode cX11_bares 9 = .ok (.iconst 0, 1) := by decide +kernel
theorem dX11_bares_10 : decode cX11_bares 10 = .ok (.iconst 2, 1) := by decide +kernel
theorem dX11_bares_11 : decode cX11_bares 11 = .ok (.invokestatic 89, 3) := by decide +kernel
theorem dX11_bares_14 : decode cX11_bares 14 = .ok (.ifCond .ne 5, 3) := by decide +kernel
theorem dX11_bares_17 : decode cX11_bares 17 = .ok (.iconst (-1), 1) := by decide +kernel
theorem dX11_bares_18 : decode cX11_bares 18 = .ok (.ireturn, 1) := by decide +kernel
theorem dX11_bares_19 : decode cX11_bares 19 = .ok (.iconst 0, 1) := by decide +kernel
theorem dX11_bares_20 : decode cX11_bares 20 = .ok (.istore_n 3, 1) := by decide +kernel
theorem dX11_bares_21 : decode cX11_bares 21 = .ok (.iload_n 3, 1) := by decide +kernel
theorem dX11_bares_22 : decode cX11_bares 22 = .ok (.aload_n 0, 1) := by decide +kernel
theorem dX11_bares_23 : decode cX11_bares 23 = .ok (.getfield 7, 3) := by decide +kernel
theorem dX11_bares_26 : decode cX11_bares 26 = .ok (.bipush 85, 2) := by decide +kernel
theorem dX11_bares_28 : decode cX11_bares 28 = .ok (.iaload, 1) := by decide +kernel
theorem dX11_bares_29 : decode cX11_bares 29 = .ok (.if_icmp .ge 152, 3) := by decide +kernel
theorem dX11_bares_32 : decode cX11_bares 32 = .ok (.iconst 0, 1) := by decide +kernel
theorem dX11_bares_33 : decode cX11_bares 33 = .ok (.istore 4, 2) := by decide +kernel
theorem dX11_bares_35 : decode cX11_bares 35 = .ok (.iload 4, 2) := by decide +kernel
theorem dX11_bares_37 : decode cX11_bares 37 = .ok (.aload_n 0, 1) := by decide +kernel
theorem dX11_bares_38 : decode cX11_bares 38 = .ok (.getfield 7, 3) := by decide +kernel
theorem dX11_bares_41 : decode cX11_bares 41 = .ok (.bipush 85, 2) := by decide +kernel
theorem dX11_bares_43 : decode cX11_bares 43 = .ok (.iaload, 1) := by decide +kernel
theorem dX11_bares_44 : decode cX11_bares 44 = .ok (.if_icmp .ge 131, 3) := by decide +kernel
theorem dX11_bares_47 : decode cX11_bares 47 = .ok (.aload_n 0, 1) := by decide +kernel
theorem dX11_bares_48 : decode cX11_bares 48 = .ok (.getfield 7, 3) := by decide +kernel
theorem dX11_bares_51 : decode cX11_bares 51 = .ok (.bipush 91, 2) := by decide +kernel
theorem dX11_bares_53 : decode cX11_bares 53 = .ok (.iload_n 3, 1) := by decide +kernel
theorem dX11_bares_54 : decode cX11_bares 54 = .ok (.iadd, 1) := by decide +kernel
theorem dX11_bares_55 : decode cX11_bares 55 = .ok (.iaload, 1) := by decide +kernel
theorem dX11_bares_56 : decode cX11_bares 56 = .ok (.iconst 1, 1) := by decide +kernel
theorem dX11_bares_57 : decode cX11_bares 57 = .ok (.if_icmp .eq 112, 3) := by decide +kernel
theorem dX11_bares_60 : decode cX11_bares 60 = .ok (.aload_n 0, 1) := by decide +kernel
theorem dX11_bares_61 : decode cX11_bares 61 = .ok (.iload_n 3, 1) := by decide +kernel
theorem dX11_bares_62 : decode cX11_bares 62 = .ok (.iload 4, 2) := by decide +kernel
theorem dX11_bares_64 : decode cX11_bares 64 = .ok (.invokevirtual 278, 3) := by decide +kernel
theorem dX11_bares_67 : decode cX11_bares 67 = .ok (.ifCond .eq 102, 3) := by decide +kernel
theorem dX11_bares_70 : decode cX11_bares 70 = .ok (.aload_n 0, 1) := by decide +kernel
theorem dX11_bares_71 : decode cX11_bares 71 = .ok (.iload_n 3, 1) := by decide +kernel
theorem dX11_bares_72 : decode cX11_bares 72 = .ok (.invokevirtual 351, 3) := by decide +kernel
theorem dX11_bares_75 : decode cX11_bares 75 = .ok (.ifCond .eq 94, 3) := by decide +kernel
theorem dX11_bares_78 : decode cX11_bares 78 = .ok (.aload_n 0, 1) := by decide +kernel
theorem dX11_bares_79 : decode cX11_bares 79 = .ok (.iload 4, 2) := by decide +kernel
theorem dX11_bares_81 : decode cX11_bares 81 = .ok (.invokevirtual 351, 3) := by decide +kernel
theorem dX11_bares_84 : decode cX11_bares 84 = .ok (.ifCond .eq 85, 3) := by decide +kernel
theorem dX11_bares_87 : decode cX11_bares 87 = .ok (.aload_n 0, 1) := by decide +kernel
theorem dX11_bares_88 : decode cX11_bares 88 = .ok (.iload_n 3, 1) := by decide +kernel
theorem dX11_bares_89 : decode cX11_bares 89 = .ok (.iload 4, 2) := by decide +kernel
theorem dX11_bares_91 : decode cX11_bares 91 = .ok (.invokevirtual 342, 3) := by decide +kernel
theorem dX11_bares_94 : decode cX11_bares 94 = .ok (.bipush 6, 2) := by decide +kernel
theorem dX11_bares_96 : decode cX11_bares 96 = .ok (.if_icmp .ge 6, 3) := by decide +kernel
theorem dX11_bares_99 : decode cX11_bares 99 = .ok (.goto 70, 3) := by decide +kernel
theorem dX11_bares_102 : decode cX11_bares 102 = .ok (.iconst 0, 1) := by decide +kernel
theorem dX11_bares_103 : decode cX11_bares 103 = .ok (.istore 5, 2) := by decide +kernel
theorem dX11_bares_105 : decode cX11_bares 105 = .ok (.iload 5, 2) := by decide +kernel
theorem dX11_bares_107 : decode cX11_bares 107 = .ok (.bipush 64, 2) := by decide +kernel
theorem dX11_bares_109 : decode cX11_bares 109 = .ok (.if_icmp .ge 60, 3) := by decide +kernel
theorem dX11_bares_112 : decode cX11_bares 112 = .ok (.aload_n 0, 1) := by decide +kernel
theorem dX11_bares_113 : decode cX11_bares 113 = .ok (.iload 5, 2) := by decide +kernel
theorem dX11_bares_115 : decode cX11_bares 115 = .ok (.invokevirtual 82, 3) := by decide +kernel
theorem dX11_bares_118 : decode cX11_bares 118 = .ok (.ifCond .eq 45, 3) := by decide +kernel
theorem dX11_bares_121 : decode cX11_bares 121 = .ok (.aload_n 0, 1) := by decide +kernel
theorem dX11_bares_122 : decode cX11_bares 122 = .ok (.iload_n 3, 1) := by decide +kernel
theorem dX11_bares_123 : decode cX11_bares 123 = .ok (.iload 4, 2) := by decide +kernel
theorem dX11_bares_125 : decode cX11_bares 125 = .ok (.iload 5, 2) := by decide +kernel
theorem dX11_bares_127 : decode cX11_bares 127 = .ok (.iload_n 1, 1) := by decide +kernel
theorem dX11_bares_128 : decode cX11_bares 128 = .ok (.invokevirtual 354, 3) := by decide +kernel
theorem dX11_bares_131 : decode cX11_bares 131 = .ok (.aload_n 0, 1) := by decide +kernel
theorem dX11_bares_132 : decode cX11_bares 132 = .ok (.getfield 7, 3) := by decide +kernel
theorem dX11_bares_135 : decode cX11_bares 135 = .ok (.iconst 4, 1) := by decide +kernel
theorem dX11_bares_136 : decode cX11_bares 136 = .ok (.iload_n 1, 1) := by decide +kernel
theorem dX11_bares_137 : decode cX11_bares 137 = .ok (.iadd, 1) := by decide +kernel
theorem dX11_bares_138 : decode cX11_bares 138 = .ok (.iaload, 1) := by decide +kernel
theorem dX11_bares_139 : decode cX11_bares 139 = .ok (.if_icmp .lt 24, 3) := by decide +kernel
theorem dX11_bares_142 : decode cX11_bares 142 = .ok (.iload_n 2, 1) := by decide +kernel
theorem dX11_bares_143 : decode cX11_bares 143 = .ok (.ifCond .ne 7, 3) := by decide +kernel
theorem dX11_bares_146 : decode cX11_bares 146 = .ok (.iload_n 3, 1) := by decide +kernel
theorem dX11_bares_147 : decode cX11_bares 147 = .ok (.goto 15, 3) := by decide +kernel
theorem dX11_bares_150 : decode cX11_bares 150 = .ok (.iload_n 2, 1) := by decide +kernel
theorem dX11_bares_151 : decode cX11_bares 151 = .ok (.iconst 1, 1) := by decide +kernel
theorem dX11_bares_152 : decode cX11_bares 152 = .ok (.if_icmp .ne 8, 3) := by decide +kernel
theorem dX11_bares_155 : decode cX11_bares 155 = .ok (.iload 4, 2) := by decide +kernel
theorem dX11_bares_157 : decode cX11_bares 157 = .ok (.goto 5, 3) := by decide +kernel
theorem dX11_bares_160 : decode cX11_bares 160 = .ok (.iload 5, 2) := by decide +kernel
theorem dX11_bares_162 : decode cX11_bares 162 = .ok (.ireturn, 1) := by decide +kernel
theorem dX11_bares_163 : decode cX11_bares 163 = .ok (.iinc 5 1, 3) := by decide +kernel
theorem dX11_bares_166 : decode cX11_bares 166 = .ok (.goto (-61), 3) := by decide +kernel
theorem dX11_bares_169 : decode cX11_bares 169 = .ok (.iinc 4 1, 3) := by decide +kernel
theorem dX11_bares_172 : decode cX11_bares 172 = .ok (.goto (-137), 3) := by decide +kernel
theorem dX11_bares_175 : decode cX11_bares 175 = .ok (.iinc 3 1, 3) := by decide +kernel
theorem dX11_bares_178 : decode cX11_bares 178 = .ok (.goto (-157), 3) := by decide +kernel
theorem dX11_bares_181 : decode cX11_bares 181 = .ok (.iconst (-1), 1) := by decide +kernel
theorem dX11_bares_182 : decode cX11_bares 182 = .ok (.ireturn, 1) := by decide +kernel
theorem dX11_stir_0 : decode cX11_stir 0 = .ok (.iload_n 1, 1) := by decide +kernel
theorem dX11_stir_1 : decode cX11_stir 1 = .ok (.iconst (-1), 1) := by decide +kernel
theorem dX11_stir_2 : decode cX11_stir 2 = .ok (.if_icmp .ne 13, 3) := by decide +kernel
theorem dX11_stir_5 : decode cX11_stir 5 = .ok (.aload_n 0, 1) := by decide +kernel
theorem dX11_stir_6 : decode cX11_stir 6 = .ok (.getfield 7, 3) := by decide +kernel
theorem dX11_stir_9 : decode cX11_stir 9 = .ok (.bipush 90, 2) := by decide +kernel
theorem dX11_stir_11 : decode cX11_stir 11 = .ok (.iconst 0, 1) := by decide +kernel
theorem dX11_stir_12 : decode cX11_stir 12 = .ok (.iastore, 1) := by decide +kernel
theorem dX11_stir_13 : decode cX11_stir 13 = .ok (.iconst 0, 1) := by decide +kernel
theorem dX11_stir_14 : decode cX11_stir 14 = .ok (.ireturn, 1) := by decide +kernel
theorem dX11_stir_15 : decode cX11_stir 15 = .ok (.aload_n 0, 1) := by decide +kernel
theorem dX11_stir_16 : decode cX11_stir 16 = .ok (.iload_n 1, 1) := by decide +kernel
theorem dX11_stir_17 : decode cX11_stir 17 = .ok (.invokevirtual 97, 3) := by decide +kernel
theorem dX11_stir_20 : decode cX11_stir 20 = .ok (.ifCond .eq 25, 3) := by decide +kernel
theorem dX11_stir_23 : decode cX11_stir 23 = .ok (.iload_n 2, 1) := by decide +kernel
theorem dX11_stir_24 : decode cX11_stir 24 = .ok (.iconst 0, 1) := by decide +kernel
theorem dX11_stir_25 : decode cX11_stir 25 = .ok (.bipush 9, 2) := by decide +kernel
theorem dX11_stir_27 : decode cX11_stir 27 = .ok (.invokestatic 89, 3) := by decide +kernel
theorem dX11_stir_30 : decode cX11_stir 30 = .ok (.ifCond .eq 15, 3) := by decide +kernel
theorem dX11_stir_33 : decode cX11_stir 33 = .ok (.aload_n 0, 1) := by decide +kernel
theorem dX11_stir_34 : decode cX11_stir 34 = .ok (.getfield 7, 3) := by decide +kernel
theorem dX11_stir_37 : decode cX11_stir 37 = .ok (.bipush 90, 2) := by decide +kernel
theorem dX11_stir_39 : decode cX11_stir 39 = .ok (.iaload, 1) := by decide +kernel
theorem dX11_stir_40 : decode cX11_stir 40 = .ok (.bipush 12, 2) := by decide +kernel
theorem dX11_stir_42 : decode cX11_stir 42 = .ok (.if_icmp .ne 5, 3) := by decide +kernel
theorem dX11_stir_45 : decode cX11_stir 45 = .ok (.iconst (-1), 1) := by decide +kernel
theorem dX11_stir_46 : decode cX11_stir 46 = .ok (.ireturn, 1) := by decide +kernel
theorem dX11_stir_47 : decode cX11_stir 47 = .ok (.sipush 275, 3) := by decide +kernel
theorem dX11_stir_50 : decode cX11_stir 50 = .ok (.iconst 3, 1) := by decide +kernel
theorem dX11_stir_51 : decode cX11_stir 51 = .ok (.aload_n 0, 1) := by decide +kernel
theorem dX11_stir_52 : decode cX11_stir 52 = .ok (.getfield 7, 3) := by decide +kernel
theorem dX11_stir_55 : decode cX11_stir 55 = .ok (.bipush 90, 2) := by decide +kernel
theorem dX11_stir_57 : decode cX11_stir 57 = .ok (.iaload, 1) := by decide +kernel
theorem dX11_stir_58 : decode cX11_stir 58 = .ok (.imul, 1) := by decide +kernel
theorem dX11_stir_59 : decode cX11_stir 59 = .ok (.iadd, 1) := by decide +kernel
theorem dX11_stir_60 : decode cX11_stir 60 = .ok (.istore 4, 2) := by decide +kernel
theorem dX11_stir_62 : decode cX11_stir 62 = .ok (.aload_n 0, 1) := by decide +kernel
theorem dX11_stir_63 : decode cX11_stir 63 = .ok (.getfield 7, 3) := by decide +kernel
theorem dX11_stir_66 : decode cX11_stir 66 = .ok (.iload 4, 2) := by decide +kernel
theorem dX11_stir_68 : decode cX11_stir 68 = .ok (.iload_n 1, 1) := by decide +kernel
theorem dX11_stir_69 : decode cX11_stir 69 = .ok (.iastore, 1) := by decide +kernel
theorem dX11_stir_70 : decode cX11_stir 70 = .ok (.aload_n 0, 1) := by decide +kernel
theorem dX11_stir_71 : decode cX11_stir 71 = .ok (.getfield 7, 3) := by decide +kernel
theorem dX11_stir_74 : decode cX11_stir 74 = .ok (.iload 4, 2) := by decide +kernel
theorem dX11_stir_76 : decode cX11_stir 76 = .ok (.iconst 1, 1) := by decide +kernel
theorem dX11_stir_77 : decode cX11_stir 77 = .ok (.iadd, 1) := by decide +kernel
theorem dX11_stir_78 : decode cX11_stir 78 = .ok (.iload_n 2, 1) := by decide +kernel
theorem dX11_stir_79 : decode cX11_stir 79 = .ok (.iastore, 1) := by decide +kernel
theorem dX11_stir_80 : decode cX11_stir 80 = .ok (.aload_n 0, 1) := by decide +kernel
theorem dX11_stir_81 : decode cX11_stir 81 = .ok (.getfield 7, 3) := by decide +kernel
theorem dX11_stir_84 : decode cX11_stir 84 = .ok (.iload 4, 2) := by decide +kernel
theorem dX11_stir_86 : decode cX11_stir 86 = .ok (.iconst 2, 1) := by decide +kernel
theorem dX11_stir_87 : decode cX11_stir 87 = .ok (.iadd, 1) := by decide +kernel
theorem dX11_stir_88 : decode cX11_stir 88 = .ok (.iload_n 3, 1) := by decide +kernel
theorem dX11_stir_89 : decode cX11_stir 89 = .ok (.ifCond .eq 7, 3) := by decide +kernel
theorem dX11_stir_92 : decode cX11_stir 92 = .ok (.iconst 1, 1) := by decide +kernel
theorem dX11_stir_93 : decode cX11_stir 93 = .ok (.goto 4, 3) := by decide +kernel
theorem dX11_stir_96 : decode cX11_stir 96 = .ok (.iconst 0, 1) := by decide +kernel
theorem dX11_stir_97 : decode cX11_stir 97 = .ok (.iastore, 1) := by decide +kernel
theorem dX11_stir_98 : decode cX11_stir 98 = .ok (.aload_n 0, 1) := by decide +kernel
theorem dX11_stir_99 : decode cX11_stir 99 = .ok (.getfield 7, 3) := by decide +kernel
theorem dX11_stir_102 : decode cX11_stir 102 = .ok (.bipush 90, 2) := by decide +kernel
theorem dX11_stir_104 : decode cX11_stir 104 = .ok (.dup2, 1) := by decide +kernel
theorem dX11_stir_105 : decode cX11_stir 105 = .ok (.iaload, 1) := by decide +kernel
theorem dX11_stir_106 : decode cX11_stir 106 = .ok (.iconst 1, 1) := by decide +kernel
theorem dX11_stir_107 : decode cX11_stir 107 = .ok (.iadd, 1) := by decide +kernel
theorem dX11_stir_108 : decode cX11_stir 108 = .ok (.iastore, 1) := by decide +kernel
theorem dX11_stir_109 : decode cX11_stir 109 = .ok (.aload_n 0, 1) := by decide +kernel
theorem dX11_stir_110 : decode cX11_stir 110 = .ok (.getfield 7, 3) := by decide +kernel
theorem dX11_stir_113 : decode cX11_stir 113 = .ok (.bipush 90, 2) := by decide +kernel
theorem dX11_stir_115 : decode cX11_stir 115 = .ok (.iaload, 1) := by decide +kernel
theorem dX11_stir_116 : decode cX11_stir 116 = .ok (.ireturn, 1) := by decide +kernel
theorem dX11_canBe_0 : decode cX11_canBe 0 = .ok (.aload_n 0, 1) := by decide +kernel
theorem dX11_canBe_1 : decode cX11_canBe 1 = .ok (.iload_n 1, 1) := by decide +kernel
theorem dX11_canBe_2 : decode cX11_canBe 2 = .ok (.iload_n 2, 1) := by decide +kernel
theorem dX11_canBe_3 : decode cX11_canBe 3 = .ok (.invokevirtual 342, 3) := by decide +kernel
theorem dX11_canBe_6 : decode cX11_canBe 6 = .ok (.istore_n 3, 1) := by decide +kernel
theorem dX11_canBe_7 : decode cX11_canBe 7 = .ok (.iconst 0, 1) := by decide +kernel
theorem dX11_canBe_8 : decode cX11_canBe 8 = .ok (.istore 4, 2) := by decide +kernel
theorem dX11_canBe_10 : decode cX11_canBe 10 = .ok (.iload 4, 2) := by decide +kernel
theorem dX11_canBe_12 : decode cX11_canBe 12 = .ok (.aload_n 0, 1) := by decide +kernel
theorem dX11_canBe_13 : decode cX11_canBe 13 = .ok (.getfield 7, 3) := by decide +kernel
theorem dX11_canBe_16 : decode cX11_canBe 16 = .ok (.bipush 90, 2) := by decide +kernel
theorem dX11_canBe_18 : decode cX11_canBe 18 = .ok (.iaload, 1) := by decide +kernel
theorem dX11_canBe_19 : decode cX11_canBe 19 = .ok (.if_icmp .ge 70, 3) := by decide +kernel
theorem dX11_canBe_22 : decode cX11_canBe 22 = .ok (.sipush 275, 3) := by decide +kernel
theorem dX11_canBe_25 : decode cX11_canBe 25 = .ok (.iconst 3, 1) := by decide +kernel
theorem dX11_canBe_26 : decode cX11_canBe 26 = .ok (.iload 4, 2) := by decide +kernel
theorem dX11_canBe_28 : decode cX11_canBe 28 = .ok (.imul, 1) := by decide +kernel
theorem dX11_canBe_29 : decode cX11_canBe 29 = .ok (.iadd, 1) := by decide +kernel
theorem dX11_canBe_30 : decode cX11_canBe 30 = .ok (.istore 5, 2) := by decide +kernel
theorem dX11_canBe_32 : decode cX11_canBe 32 = .ok (.aload_n 0, 1) := by decide +kernel
theorem dX11_canBe_33 : decode cX11_canBe 33 = .ok (.getfield 7, 3) := by decide +kernel
theorem dX11_canBe_36 : decode cX11_canBe 36 = .ok (.iload 5, 2) := by decide +kernel
theorem dX11_canBe_38 : decode cX11_canBe 38 = .ok (.iaload, 1) := by decide +kernel
theorem dX11_canBe_39 : decode cX11_canBe 39 = .ok (.iload_n 1, 1) := by decide +kernel
theorem dX11_canBe_40 : decode cX11_canBe 40 = .ok (.if_icmp .ne 43, 3) := by decide +kernel
theorem dX11_canBe_43 : decode cX11_canBe 43 = .ok (.iload_n 3, 1) := by decide +kernel
theorem dX11_canBe_44 : decode cX11_canBe 44 = .ok (.aload_n 0, 1) := by decide +kernel
theorem dX11_canBe_45 : decode cX11_canBe 45 = .ok (.getfield 7, 3) := by decide +kernel
theorem dX11_canBe_48 : decode cX11_canBe 48 = .ok (.iload 5, 2) := by decide +kernel
theorem dX11_canBe_50 : decode cX11_canBe 50 = .ok (.iconst 1, 1) := by decide +kernel
theorem dX11_canBe_51 : decode cX11_canBe 51 = .ok (.iadd, 1) := by decide +kernel
theorem dX11_canBe_52 : decode cX11_canBe 52 = .ok (.iaload, 1) := by decide +kernel
theorem dX11_canBe_53 : decode cX11_canBe 53 = .ok (.if_icmp .lt 28, 3) := by decide +kernel
theorem dX11_canBe_56 : decode cX11_canBe 56 = .ok (.aload_n 0, 1) := by decide +kernel
theorem dX11_canBe_57 : decode cX11_canBe 57 = .ok (.getfield 7, 3) := by decide +kernel
theorem dX11_canBe_60 : decode cX11_canBe 60 = .ok (.iload 5, 2) := by decide +kernel
theorem dX11_canBe_62 : decode cX11_canBe 62 = .ok (.iconst 2, 1) := by decide +kernel
theorem dX11_canBe_63 : decode cX11_canBe 63 = .ok (.iadd, 1) := by decide +kernel
theorem dX11_canBe_64 : decode cX11_canBe 64 = .ok (.iaload, 1) := by decide +kernel
theorem dX11_canBe_65 : decode cX11_canBe 65 = .ok (.ifCond .ne 18, 3) := by decide +kernel
theorem dX11_canBe_68 : decode cX11_canBe 68 = .ok (.iload_n 3, 1) := by decide +kernel
theorem dX11_canBe_69 : decode cX11_canBe 69 = .ok (.aload_n 0, 1) := by decide +kernel
theorem dX11_canBe_70 : decode cX11_canBe 70 = .ok (.getfield 7, 3) := by decide +kernel
theorem dX11_canBe_73 : decode cX11_canBe 73 = .ok (.iload 5, 2) := by decide +kernel
theorem dX11_canBe_75 : decode cX11_canBe 75 = .ok (.iconst 1, 1) := by decide +kernel
theorem dX11_canBe_76 : decode cX11_canBe 76 = .ok (.iadd, 1) := by decide +kernel
theorem dX11_canBe_77 : decode cX11_canBe 77 = .ok (.iaload, 1) := by decide +kernel
theorem dX11_canBe_78 : decode cX11_canBe 78 = .ok (.if_icmp .le 5, 3) := by decide +kernel
theorem dX11_canBe_81 : decode cX11_canBe 81 = .ok (.iconst 0, 1) := by decide +kernel
theorem dX11_canBe_82 : decode cX11_canBe 82 = .ok (.ireturn, 1) := by decide +kernel
theorem dX11_canBe_83 : decode cX11_canBe 83 = .ok (.iinc 4 1, 3) := by decide +kernel
theorem dX11_canBe_86 : decode cX11_canBe 86 = .ok (.goto (-76), 3) := by decide +kernel
theorem dX11_canBe_89 : decode cX11_canBe 89 = .ok (.iconst 1, 1) := by decide +kernel
theorem dX11_canBe_90 : decode cX11_canBe 90 = .ok (.ireturn, 1) := by decide +kernel
theorem dX11_whoBy_0 : decode cX11_whoBy 0 = .ok (.iconst 0, 1) := by decide +kernel
theorem dX11_whoBy_1 : decode cX11_whoBy 1 = .ok (.istore_n 2, 1) := by decide +kernel
theorem dX11_whoBy_2 : decode cX11_whoBy 2 = .ok (.iconst 0, 1) := by decide +kernel
theorem dX11_whoBy_3 : decode cX11_whoBy 3 = .ok (.istore_n 3, 1) := by decide +kernel
theorem dX11_whoBy_4 : decode cX11_whoBy 4 = .ok (.iload_n 3, 1) := by decide +kernel
theorem dX11_whoBy_5 : decode cX11_whoBy 5 = .ok (.aload_n 0, 1) := by decide +kernel
theorem dX11_whoBy_6 : decode cX11_whoBy 6 = .ok (.getfield 7, 3) := by decide +kernel
theorem dX11_whoBy_9 : decode cX11_whoBy 9 = .ok (.bipush 85, 2) := by decide +kernel
theorem dX11_whoBy_11 : decode cX11_whoBy 11 = .ok (.iaload, 1) := by decide +kernel
theorem dX11_whoBy_12 : decode cX11_whoBy 12 = .ok (.if_icmp .ge 37, 3) := by decide +kernel
theorem dX11_whoBy_15 : decode cX11_whoBy 15 = .ok (.iload_n 2, 1) := by decide +kernel
theorem dX11_whoBy_16 : decode cX11_whoBy 16 = .ok (.aload_n 0, 1) := by decide +kernel
theorem dX11_whoBy_17 : decode cX11_whoBy 17 = .ok (.iload_n 1, 1) := by decide +kernel
theorem dX11_whoBy_18 : decode cX11_whoBy 18 = .ok (.iload_n 3, 1) := by decide +kernel
theorem dX11_whoBy_19 : decode cX11_whoBy 19 = .ok (.invokevirtual 278, 3) := by decide +kernel
theorem dX11_whoBy_22 : decode cX11_whoBy 22 = .ok (.ifCond .eq 18, 3) := by decide +kernel
theorem dX11_whoBy_25 : decode cX11_whoBy 25 = .ok (.aload_n 0, 1) := by decide +kernel
theorem dX11_whoBy_26 : decode cX11_whoBy 26 = .ok (.iload_n 1, 1) := by decide +kernel
theorem dX11_whoBy_27 : decode cX11_whoBy 27 = .ok (.iload_n 3, 1) := by decide +kernel
theorem dX11_whoBy_28 : decode cX11_whoBy 28 = .ok (.invokevirtual 444, 3) := by decide +kernel
theorem dX11_whoBy_31 : decode cX11_whoBy 31 = .ok (.ifCond .eq 9, 3) := by decide +kernel
theorem dX11_whoBy_34 : decode cX11_whoBy 34 = .ok (.iconst 1, 1) := by decide +kernel
theorem dX11_whoBy_35 : decode cX11_whoBy 35 = .ok (.iload_n 3, 1) := by decide +kernel
theorem dX11_whoBy_36 : decode cX11_whoBy 36 = .ok (.ishl, 1) := by decide +kernel
theorem dX11_whoBy_37 : decode cX11_whoBy 37 = .ok (.goto 4, 3) := by decide +kernel
theorem dX11_whoBy_40 : decode cX11_whoBy 40 = .ok (.iconst 0, 1) := by decide +kernel
theorem dX11_whoBy_41 : decode cX11_whoBy 41 = .ok (.ior, 1) := by decide +kernel
theorem dX11_whoBy_42 : decode cX11_whoBy 42 = .ok (.istore_n 2, 1) := by decide +kernel
theorem dX11_whoBy_43 : decode cX11_whoBy 43 = .ok (.iinc 3 1, 3) := by decide +kernel
theorem dX11_whoBy_46 : decode cX11_whoBy 46 = .ok (.goto (-42), 3) := by decide +kernel
theorem dX11_whoBy_49 : decode cX11_whoBy 49 = .ok (.iload_n 2, 1) := by decide +kernel
theorem dX11_whoBy_50 : decode cX11_whoBy 50 = .ok (.ireturn, 1) := by decide +kernel
theorem dX11_who_0 : decode cX11_who 0 = .ok (.aload_n 0, 1) := by decide +kernel
theorem dX11_who_1 : decode cX11_who 1 = .ok (.iload_n 1, 1) := by decide +kernel
theorem dX11_who_2 : decode cX11_who 2 = .ok (.invokevirtual 97, 3) := by decide +kernel
theorem dX11_who_5 : decode cX11_who 5 = .ok (.ifCond .eq 11, 3) := by decide +kernel
theorem dX11_who_8 : decode cX11_who 8 = .ok (.aload_n 0, 1) := by decide +kernel
theorem dX11_who_9 : decode cX11_who 9 = .ok (.iload_n 1, 1) := by decide +kernel
theorem dX11_who_10 : decode cX11_who 10 = .ok (.invokevirtual 447, 3) := by decide +kernel
theorem dX11_who_13 : decode cX11_who 13 = .ok (.goto 4, 3) := by decide +kernel
theorem dX11_who_16 : decode cX11_who 16 = .ok (.iconst (-1), 1) := by decide +kernel
theorem dX11_who_17 : decode cX11_who 17 = .ok (.ireturn, 1) := by decide +kernel
theorem dX11_mostAlike_0 : decode cX11_mostAlike 0 = .ok (.iconst 0, 1) := by decide +kernel
theorem dX11_mostAlike_1 : decode cX11_mostAlike 1 = .ok (.istore_n 3, 1) := by decide +kernel
theorem dX11_mostAlike_2 : decode cX11_mostAlike 2 = .ok (.iload_n 3, 1) := by decide +kernel
theorem dX11_mostAlike_3 : decode cX11_mostAlike 3 = .ok (.bipush 9, 2) := by decide +kernel
theorem dX11_mostAlike_5 : decode cX11_mostAlike 5 = .ok (.if_icmp .gt 16, 3) := by decide +kernel
theorem dX11_mostAlike_8 : decode cX11_mostAlike 8 = .ok (.aload_n 0, 1) := by decide +kernel
theorem dX11_mostAlike_9 : decode cX11_mostAlike 9 = .ok (.getfield 60, 3) := by decide +kernel
theorem dX11_mostAlike_12 : decode cX11_mostAlike 12 = .ok (.iload_n 3, 1) := by decide +kernel
theorem dX11_mostAlike_13 : decode cX11_mostAlike 13 = .ok (.iconst 0, 1) := by decide +kernel
theorem dX11_mostAlike_14 : decode cX11_mostAlike 14 = .ok (.iastore, 1) := by decide +kernel
theorem dX11_mostAlike_15 : decode cX11_mostAlike 15 = .ok (.iinc 3 1, 3) := by decide +kernel
theorem dX11_mostAlike_18 : decode cX11_mostAlike 18 = .ok (.goto (-16), 3) := by decide +kernel
theorem dX11_mostAlike_21 : decode cX11_mostAlike 21 = .ok (.iconst 0, 1) := by decide +kernel
theorem dX11_mostAlike_22 : decode cX11_mostAlike 22 = .ok (.istore_n 3, 1) := by decide +kernel
theorem dX11_mostAlike_23 : decode cX11_mostAlike 23 = .ok (.iconst 0, 1) := by decide +kernel
theorem dX11_mostAlike_24 : decode cX11_mostAlike 24 = .ok (.istore 4, 2) := by decide +kernel
theorem dX11_mostAlike_26 : decode cX11_mostAlike 26 = .ok (.iload 4, 2) := by decide +kernel
theorem dX11_mostAlike_28 : decode cX11_mostAlike 28 = .ok (.aload_n 0, 1) := by decide +kernel
theorem dX11_mostAlike_29 : decode cX11_mostAlike 29 = .ok (.getfield 7, 3) := by decide +kernel
theorem dX11_mostAlike_32 : decode cX11_mostAlike 32 = .ok (.bipush 85, 2) := by decide +kernel
theorem dX11_mostAlike_34 : decode cX11_mostAlike 34 = .ok (.iaload, 1) := by decide +kernel
theorem dX11_mostAlike_35 : decode cX11_mostAlike 35 = .ok (.if_icmp .ge 53, 3) := by decide +kernel
theorem dX11_mostAlike_38 : decode cX11_mostAlike 38 = .ok (.iload_n 2, 1) := by decide +kernel
theorem dX11_mostAlike_39 : decode cX11_mostAlike 39 = .ok (.iload 4, 2) := by decide +kernel
theorem dX11_mostAlike_41 : decode cX11_mostAlike 41 = .ok (.ishr, 1) := by decide +kernel
theorem dX11_mostAlike_42 : decode cX11_mostAlike 42 = .ok (.iconst 1, 1) := by decide +kernel
theorem dX11_mostAlike_43 : decode cX11_mostAlike 43 = .ok (.iand, 1) := by decide +kernel
theorem dX11_mostAlike_44 : decode cX11_mostAlike 44 = .ok (.ifCond .ne 6, 3) := by decide +kernel
theorem dX11_mostAlike_47 : decode cX11_mostAlike 47 = .ok (.goto 35, 3) := by decide +kernel
theorem dX11_mostAlike_50 : decode cX11_mostAlike 50 = .ok (.aload_n 0, 1) := by decide +kernel
theorem dX11_mostAlike_51 : decode cX11_mostAlike 51 = .ok (.iload_n 1, 1) := by decide +kernel
theorem dX11_mostAlike_52 : decode cX11_mostAlike 52 = .ok (.iload 4, 2) := by decide +kernel
theorem dX11_mostAlike_54 : decode cX11_mostAlike 54 = .ok (.invokevirtual 342, 3) := by decide +kernel
theorem dX11_mostAlike_57 : decode cX11_mostAlike 57 = .ok (.istore 5, 2) := by decide +kernel
theorem dX11_mostAlike_59 : decode cX11_mostAlike 59 = .ok (.aload_n 0, 1) := by decide +kernel
theorem dX11_mostAlike_60 : decode cX11_mostAlike 60 = .ok (.getfield 60, 3) := by decide +kernel
theorem dX11_mostAlike_63 : decode cX11_mostAlike 63 = .ok (.iload 5, 2) := by decide +kernel
theorem dX11_mostAlike_65 : decode cX11_mostAlike 65 = .ok (.dup2, 1) := by decide +kernel
theorem dX11_mostAlike_66 : decode cX11_mostAlike 66 = .ok (.iaload, 1) := by decide +kernel
theorem dX11_mostAlike_67 : decode cX11_mostAlike 67 = .ok (.iconst 1, 1) := by decide +kernel
theorem dX11_mostAlike_68 : decode cX11_mostAlike 68 = .ok (.iadd, 1) := by decide +kernel
theorem dX11_mostAlike_69 : decode cX11_mostAlike 69 = .ok (.iastore, 1) := by decide +kernel
theorem dX11_mostAlike_70 : decode cX11_mostAlike 70 = .ok (.iload_n 3, 1) := by decide +kernel
theorem dX11_mostAlike_71 : decode cX11_mostAlike 71 = .ok (.aload_n 0, 1) := by decide +kernel
theorem dX11_mostAlike_72 : decode cX11_mostAlike 72 = .ok (.getfield 60, 3) := by decide +kernel
theorem dX11_mostAlike_75 : decode cX11_mostAlike 75 = .ok (.iload 5, 2) := by decide +kernel
theorem dX11_mostAlike_77 : decode cX11_mostAlike 77 = .ok (.iaload, 1) := by decide +kernel
theorem dX11_mostAlike_78 : decode cX11_mostAlike 78 = .ok (.invokestatic 327, 3) := by decide +kernel
theorem dX11_mostAlike_81 : decode cX11_mostAlike 81 = .ok (.istore_n 3, 1) := by decide +kernel
theorem dX11_mostAlike_82 : decode cX11_mostAlike 82 = .ok (.iinc 4 1, 3) := by decide +kernel
theorem dX11_mostAlike_85 : decode cX11_mostAlike 85 = .ok (.goto (-59), 3) := by decide +kernel
theorem dX11_mostAlike_88 : decode cX11_mostAlike 88 = .ok (.iload_n 3, 1) := by decide +kernel
theorem dX11_mostAlike_89 : decode cX11_mostAlike 89 = .ok (.ireturn, 1) := by decide +kernel
theorem dX11_ask_0 : decode cX11_ask 0 = .ok (.aload_n 0, 1) := by decide +kernel
theorem dX11_ask_1 : decode cX11_ask 1 = .ok (.iload_n 1, 1) := by decide +kernel
theorem dX11_ask_2 : decode cX11_ask 2 = .ok (.invokevirtual 97, 3) := by decide +kernel
theorem dX11_ask_5 : decode cX11_ask 5 = .ok (.ifCond .eq 15, 3) := by decide +kernel
theorem dX11_ask_8 : decode cX11_ask 8 = .ok (.aload_n 0, 1) := by decide +kernel
theorem dX11_ask_9 : decode cX11_ask 9 = .ok (.iload_n 1, 1) := by decide +kernel
theorem dX11_ask_10 : decode cX11_ask 10 = .ok (.invokevirtual 447, 3) := by decide +kernel
theorem dX11_ask_13 : decode cX11_ask 13 = .ok (.invokestatic 450, 3) := by decide +kernel
theorem dX11_ask_16 : decode cX11_ask 16 = .ok (.iconst 2, 1) := by decide +kernel
theorem dX11_ask_17 : decode cX11_ask 17 = .ok (.if_icmp .ge 5, 3) := by decide +kernel
theorem dX11_ask_20 : decode cX11_ask 20 = .ok (.iconst (-1), 1) := by decide +kernel
theorem dX11_ask_21 : decode cX11_ask 21 = .ok (.ireturn, 1) := by decide +kernel
theorem dX11_ask_22 : decode cX11_ask 22 = .ok (.aload_n 0, 1) := by decide +kernel
theorem dX11_ask_23 : decode cX11_ask 23 = .ok (.iload_n 1, 1) := by decide +kernel
theorem dX11_ask_24 : decode cX11_ask 24 = .ok (.invokevirtual 447, 3) := by decide +kernel
theorem dX11_ask_27 : decode cX11_ask 27 = .ok (.istore_n 2, 1) := by decide +kernel
theorem dX11_ask_28 : decode cX11_ask 28 = .ok (.iconst (-1), 1) := by decide +kernel
theorem dX11_ask_29 : decode cX11_ask 29 = .ok (.istore_n 3, 1) := by decide +kernel
theorem dX11_ask_30 : decode cX11_ask 30 = .ok (.ldc_w 453, 3) := by decide +kernel
theorem dX11_ask_33 : decode cX11_ask 33 = .ok (.istore 4, 2) := by decide +kernel
theorem dX11_ask_35 : decode cX11_ask 35 = .ok (.iconst 0, 1) := by decide +kernel
theorem dX11_ask_36 : decode cX11_ask 36 = .ok (.istore 5, 2) := by decide +kernel
theorem dX11_ask_38 : decode cX11_ask 38 = .ok (.iload 5, 2) := by decide +kernel
theorem dX11_ask_40 : decode cX11_ask 40 = .ok (.aload_n 0, 1) := by decide +kernel
theorem dX11_ask_41 : decode cX11_ask 41 = .ok (.getfield 7, 3) := by decide +kernel
theorem dX11_ask_44 : decode cX11_ask 44 = .ok (.bipush 85, 2) := by decide +kernel
theorem dX11_ask_46 : decode cX11_ask 46 = .ok (.iaload, 1) := by decide +kernel
theorem dX11_ask_47 : decode cX11_ask 47 = .ok (.if_icmp .ge 64, 3) := by decide +kernel
theorem dX11_ask_50 : decode cX11_ask 50 = .ok (.iload 5, 2) := by decide +kernel
theorem dX11_ask_52 : decode cX11_ask 52 = .ok (.iload_n 1, 1) := by decide +kernel
theorem dX11_ask_53 : decode cX11_ask 53 = .ok (.if_icmp .eq 52, 3) := by decide +kernel
theorem dX11_ask_56 : decode cX11_ask 56 = .ok (.aload_n 0, 1) := by decide +kernel
theorem dX11_ask_57 : decode cX11_ask 57 = .ok (.getfield 7, 3) := by decide +kernel
theorem dX11_ask_60 : decode cX11_ask 60 = .ok (.bipush 91, 2) := by decide +kernel
theorem dX11_ask_62 : decode cX11_ask 62 = .ok (.iload 5, 2) := by decide +kernel
theorem dX11_ask_64 : decode cX11_ask 64 = .ok (.iadd, 1) := by decide +kernel
theorem dX11_ask_65 : decode cX11_ask 65 = .ok (.iaload, 1) := by decide +kernel
theorem dX11_ask_66 : decode cX11_ask 66 = .ok (.aload_n 0, 1) := by decide +kernel
theorem dX11_ask_67 : decode cX11_ask 67 = .ok (.getfield 7, 3) := by decide +kernel
theorem dX11_ask_70 : decode cX11_ask 70 = .ok (.bipush 91, 2) := by decide +kernel
theorem dX11_ask_72 : decode cX11_ask 72 = .ok (.iload_n 1, 1) := by decide +kernel
theorem dX11_ask_73 : decode cX11_ask 73 = .ok (.iadd, 1) := by decide +kernel
theorem dX11_ask_74 : decode cX11_ask 74 = .ok (.iaload, 1) := by decide +kernel
theorem dX11_ask_75 : decode cX11_ask 75 = .ok (.if_icmp .ne 30, 3) := by decide +kernel
theorem dX11_ask_78 : decode cX11_ask 78 = .ok (.aload_n 0, 1) := by decide +kernel
theorem dX11_ask_79 : decode cX11_ask 79 = .ok (.iload 5, 2) := by decide +kernel
theorem dX11_ask_81 : decode cX11_ask 81 = .ok (.iload_n 2, 1) := by decide +kernel
theorem dX11_ask_82 : decode cX11_ask 82 = .ok (.invokevirtual 454, 3) := by decide +kernel
theorem dX11_ask_85 : decode cX11_ask 85 = .ok (.iload 4, 2) := by decide +kernel
theorem dX11_ask_87 : decode cX11_ask 87 = .ok (.if_icmp .lt 6, 3) := by decide +kernel
theorem dX11_ask_90 : decode cX11_ask 90 = .ok (.goto 15, 3) := by decide +kernel
theorem dX11_ask_93 : decode cX11_ask 93 = .ok (.aload_n 0, 1) := by decide +kernel
theorem dX11_ask_94 : decode cX11_ask 94 = .ok (.iload 5, 2) := by decide +kernel
theorem dX11_ask_96 : decode cX11_ask 96 = .ok (.iload_n 2, 1) := by decide +kernel
theorem dX11_ask_97 : decode cX11_ask 97 = .ok (.invokevirtual 454, 3) := by decide +kernel
theorem dX11_ask_100 : decode cX11_ask 100 = .ok (.istore 4, 2) := by decide +kernel
theorem dX11_ask_102 : decode cX11_ask 102 = .ok (.iload 5, 2) := by decide +kernel
theorem dX11_ask_104 : decode cX11_ask 104 = .ok (.istore_n 3, 1) := by decide +kernel
theorem dX11_ask_105 : decode cX11_ask 105 = .ok (.iinc 5 1, 3) := by decide +kernel
theorem dX11_ask_108 : decode cX11_ask 108 = .ok (.goto (-70), 3) := by decide +kernel
theorem dX11_ask_111 : decode cX11_ask 111 = .ok (.iload_n 3, 1) := by decide +kernel
theorem dX11_ask_112 : decode cX11_ask 112 = .ok (.ireturn, 1) := by decide +kernel
theorem dX11_fans_0 : decode cX11_fans 0 = .ok (.iload_n 1, 1) := by decide +kernel
theorem dX11_fans_1 : decode cX11_fans 1 = .ok (.iconst 0, 1) := by decide +kernel
theorem dX11_fans_2 : decode cX11_fans 2 = .ok (.bipush 99, 2) := by decide +kernel
theorem dX11_fans_4 : decode cX11_fans 4 = .ok (.invokestatic 89, 3) := by decide +kernel
theorem dX11_fans_7 : decode cX11_fans 7 = .ok (.ifCond .eq 14, 3) := by decide +kernel
theorem dX11_fans_10 : decode cX11_fans 10 = .ok (.iload_n 2, 1) := by decide +kernel
theorem dX11_fans_11 : decode cX11_fans 11 = .ok (.iconst 0, 1) := by decide +kernel
theorem dX11_fans_12 : decode cX11_fans 12 = .ok (.sipush 1000, 3) := by decide +kernel
theorem dX11_fans_15 : decode cX11_fans 15 = .ok (.invokestatic 89, 3) := by decide +kernel
theorem dX11_fans_18 : decode cX11_fans 18 = .ok (.ifCond .ne 5, 3) := by decide +kernel
theorem dX11_fans_21 : decode cX11_fans 21 = .ok (.iconst (-1), 1) := by decide +kernel
theorem dX11_fans_22 : decode cX11_fans 22 = .ok (.ireturn, 1) := by decide +kernel
theorem dX11_fans_23 : decode cX11_fans 23 = .ok (.iload_n 2, 1) := by decide +kernel
theorem dX11_fans_24 : decode cX11_fans 24 = .ok (.i2l, 1) := by decide +kernel
theorem dX11_fans_25 : decode cX11_fans 25 = .ok (.iload_n 1, 1) := by decide +kernel
theorem dX11_fans_26 : decode cX11_fans 26 = .ok (.iconst 1, 1) := by decide +kernel
theorem dX11_fans_27 : decode cX11_fans 27 = .ok (.iadd, 1) := by decide +kernel
theorem dX11_fans_28 : decode cX11_fans 28 = .ok (.i2l, 1) := by decide +kernel
theorem dX11_fans_29 : decode cX11_fans 29 = .ok (.lmul, 1) := by decide +kernel
theorem dX11_fans_30 : decode cX11_fans 30 = .ok (.lstore_n 3, 1) := by decide +kernel
theorem dX11_fans_31 : decode cX11_fans 31 = .ok (.sipush 1000, 3) := by decide +kernel
theorem dX11_fans_34 : decode cX11_fans 34 = .ok (.iload_n 2, 1) := by decide +kernel
theorem dX11_fans_35 : decode cX11_fans 35 = .ok (.isub, 1) := by decide +kernel
theorem dX11_fans_36 : decode cX11_fans 36 = .ok (.i2l, 1) := by decide +kernel
theorem dX11_fans_37 : decode cX11_fans 37 = .ok (.bipush 100, 2) := by decide +kernel
theorem dX11_fans_39 : decode cX11_fans 39 = .ok (.iload_n 1, 1) := by decide +kernel
theorem dX11_fans_40 : decode cX11_fans 40 = .ok (.isub, 1) := by decide +kernel
theorem dX11_fans_41 : decode cX11_fans 41 = .ok (.i2l, 1) := by decide +kernel
theorem dX11_fans_42 : decode cX11_fans 42 = .ok (.lmul, 1) := by decide +kernel
theorem dX11_fans_43 : decode cX11_fans 43 = .ok (.lstore 5, 2) := by decide +kernel
theorem dX11_fans_45 : decode cX11_fans 45 = .ok (.ldc2_w 457, 3) := by decide +kernel
theorem dX11_fans_48 : decode cX11_fans 48 = .ok (.lload_n 3, 1) := by decide +kernel
theorem dX11_fans_49 : decode cX11_fans 49 = .ok (.lmul, 1) := by decide +kernel
theorem dX11_fans_50 : decode cX11_fans 50 = .ok (.lload_n 3, 1) := by decide +kernel
theorem dX11_fans_51 : decode cX11_fans 51 = .ok (.lload 5, 2) := by decide +kernel
theorem dX11_fans_53 : decode cX11_fans 53 = .ok (.ladd, 1) := by decide +kernel
theorem dX11_fans_54 : decode cX11_fans 54 = .ok (.ldiv, 1) := by decide +kernel
theorem dX11_fans_55 : decode cX11_fans 55 = .ok (.l2i, 1) := by decide +kernel
theorem dX11_fans_56 : decode cX11_fans 56 = .ok (.ireturn, 1) := by decide +kernel
theorem dX11_isSafe_0 : decode cX11_isSafe 0 = .ok (.iload_n 1, 1) := by decide +kernel
theorem dX11_isSafe_1 : decode cX11_isSafe 1 = .ok (.iconst (-1), 1) := by decide +kernel
theorem dX11_isSafe_2 : decode cX11_isSafe 2 = .ok (.if_icmp .eq 33, 3) := by decide +kernel
theorem dX11_isSafe_5 : decode cX11_isSafe 5 = .ok (.aload_n 0, 1) := by decide +kernel
theorem dX11_isSafe_6 : decode cX11_isSafe 6 = .ok (.iload_n 1, 1) := by decide +kernel
theorem dX11_isSafe_7 : decode cX11_isSafe 7 = .ok (.invokevirtual 82, 3) := by decide +kernel
theorem dX11_isSafe_10 : decode cX11_isSafe 10 = .ok (.ifCond .eq 25, 3) := by decide +kernel
theorem dX11_isSafe_13 : decode cX11_isSafe 13 = .ok (.aload_n 0, 1) := by decide +kernel
theorem dX11_isSafe_14 : decode cX11_isSafe 14 = .ok (.getfield 7, 3) := by decide +kernel
theorem dX11_isSafe_17 : decode cX11_isSafe 17 = .ok (.iconst 4, 1) := by decide +kernel
theorem dX11_isSafe_18 : decode cX11_isSafe 18 = .ok (.iload_n 1, 1) := by decide +kernel
theorem dX11_isSafe_19 : decode cX11_isSafe 19 = .ok (.iadd, 1) := by decide +kernel
theorem dX11_isSafe_20 : decode cX11_isSafe 20 = .ok (.iaload, 1) := by decide +kernel
theorem dX11_isSafe_21 : decode cX11_isSafe 21 = .ok (.aload_n 0, 1) := by decide +kernel
theorem dX11_isSafe_22 : decode cX11_isSafe 22 = .ok (.getfield 7, 3) := by decide +kernel
theorem dX11_isSafe_25 : decode cX11_isSafe 25 = .ok (.bipush 83, 2) := by decide +kernel
theorem dX11_isSafe_27 : decode cX11_isSafe 27 = .ok (.iaload, 1) := by decide +kernel
theorem dX11_isSafe_28 : decode cX11_isSafe 28 = .ok (.if_icmp .ge 7, 3) := by decide +kernel
theorem dX11_isSafe_31 : decode cX11_isSafe 31 = .ok (.iconst 1, 1) := by decide +kernel
theorem dX11_isSafe_32 : decode cX11_isSafe 32 = .ok (.goto 4, 3) := by decide +kernel
theorem dX11_isSafe_35 : decode cX11_isSafe 35 = .ok (.iconst 0, 1) := by decide +kernel
theorem dX11_isSafe_36 : decode cX11_isSafe 36 = .ok (.ireturn, 1) := by decide +kernel
theorem dX11_safe_0 : decode cX11_safe 0 = .ok (.aload_n 0, 1) := by decide +kernel
theorem dX11_safe_1 : decode cX11_safe 1 = .ok (.iload_n 1, 1) := by decide +kernel
theorem dX11_safe_2 : decode cX11_safe 2 = .ok (.invokevirtual 459, 3) := by decide +kernel
theorem dX11_safe_5 : decode cX11_safe 5 = .ok (.ifCond .eq 11, 3) := by decide +kernel
theorem dX11_safe_8 : decode cX11_safe 8 = .ok (.aload_n 0, 1) := by decide +kernel
theorem dX11_safe_9 : decode cX11_safe 9 = .ok (.iload_n 2, 1) := by decide +kernel
theorem dX11_safe_10 : decode cX11_safe 10 = .ok (.invokevirtual 459, 3) := by decide +kernel
theorem dX11_safe_13 : decode cX11_safe 13 = .ok (.ifCond .ne 5, 3) := by decide +kernel
theorem dX11_safe_16 : decode cX11_safe 16 = .ok (.iconst (-1), 1) := by decide +kernel
theorem dX11_safe_17 : decode cX11_safe 17 = .ok (.ireturn, 1) := by decide +kernel
theorem dX11_safe_18 : decode cX11_safe 18 = .ok (.iconst 0, 1) := by decide +kernel
theorem dX11_safe_19 : decode cX11_safe 19 = .ok (.istore_n 3, 1) := by decide +kernel
theorem dX11_safe_20 : decode cX11_safe 20 = .ok (.iload_n 3, 1) := by decide +kernel
theorem dX11_safe_21 : decode cX11_safe 21 = .ok (.bipush 64, 2) := by decide +kernel
theorem dX11_safe_23 : decode cX11_safe 23 = .ok (.if_icmp .ge 16, 3) := by decide +kernel
theorem dX11_safe_26 : decode cX11_safe 26 = .ok (.aload_n 0, 1) := by decide +kernel
theorem dX11_safe_27 : decode cX11_safe 27 = .ok (.getfield 63, 3) := by decide +kernel
theorem dX11_safe_30 : decode cX11_safe 30 = .ok (.iload_n 3, 1) := by decide +kernel
theorem dX11_safe_31 : decode cX11_safe 31 = .ok (.iconst (-1), 1) := by decide +kernel
theorem dX11_safe_32 : decode cX11_safe 32 = .ok (.iastore, 1) := by decide +kernel
theorem dX11_safe_33 : decode cX11_safe 33 = .ok (.iinc 3 1, 3) := by decide +kernel
theorem dX11_safe_36 : decode cX11_safe 36 = .ok (.goto (-16), 3) := by decide +kernel
theorem dX11_safe_39 : decode cX11_safe 39 = .ok (.aload_n 0, 1) := by decide +kernel
theorem dX11_safe_40 : decode cX11_safe 40 = .ok (.getfield 63, 3) := by decide +kernel
theorem dX11_safe_43 : decode cX11_safe 43 = .ok (.iload_n 1, 1) := by decide +kernel
theorem dX11_safe_44 : decode cX11_safe 44 = .ok (.iconst 0, 1) := by decide +kernel
theorem dX11_safe_45 : decode cX11_safe 45 = .ok (.iastore, 1) := by decide +kernel
theorem dX11_safe_46 : decode cX11_safe 46 = .ok (.aload_n 0, 1) := by decide +kernel
theorem dX11_safe_47 : decode cX11_safe 47 = .ok (.getfield 66, 3) := by decide +kernel
theorem dX11_safe_50 : decode cX11_safe 50 = .ok (.iconst 0, 1) := by decide +kernel
theorem dX11_safe_51 : decode cX11_safe 51 = .ok (.iload_n 1, 1) := by decide +kernel
theorem dX11_safe_52 : decode cX11_safe 52 = .ok (.iastore, 1) := by decide +kernel
theorem dX11_safe_53 : decode cX11_safe 53 = .ok (.iconst 1, 1) := by decide +kernel
theorem dX11_safe_54 : decode cX11_safe 54 = .ok (.istore_n 3, 1) := by decide +kernel
theorem dX11_safe_55 : decode cX11_safe 55 = .ok (.iconst 0, 1) := by decide +kernel
theorem dX11_safe_56 : decode cX11_safe 56 = .ok (.istore 4, 2) := by decide +kernel
theorem dX11_safe_58 : decode cX11_safe 58 = .ok (.iload 4, 2) := by decide +kernel
theorem dX11_safe_60 : decode cX11_safe 60 = .ok (.iload_n 3, 1) := by decide +kernel
theorem dX11_safe_61 : decode cX11_safe 61 = .ok (.if_icmp .ge 94, 3) := by decide +kernel
theorem dX11_safe_64 : decode cX11_safe 64 = .ok (.iconst 0, 1) := by decide +kernel
theorem dX11_safe_65 : decode cX11_safe 65 = .ok (.istore 5, 2) := by decide +kernel
theorem dX11_safe_67 : decode cX11_safe 67 = .ok (.iload 5, 2) := by decide +kernel
theorem dX11_safe_69 : decode cX11_safe 69 = .ok (.iconst 4, 1) := by decide +kernel
theorem dX11_safe_70 : decode cX11_safe 70 = .ok (.if_icmp .ge 79, 3) := by decide +kernel
theorem dX11_safe_73 : decode cX11_safe 73 = .ok (.aload_n 0, 1) := by decide +kernel
theorem dX11_safe_74 : decode cX11_safe 74 = .ok (.aload_n 0, 1) := by decide +kernel
theorem dX11_safe_75 : decode cX11_safe 75 = .ok (.getfield 66, 3) := by decide +kernel
theorem dX11_safe_78 : decode cX11_safe 78 = .ok (.iload 4, 2) := by decide +kernel
theorem dX11_safe_80 : decode cX11_safe 80 = .ok (.iaload, 1) := by decide +kernel
theorem dX11_safe_81 : decode cX11_safe 81 = .ok (.iload 5, 2) := by decide +kernel
theorem dX11_safe_83 : decode cX11_safe 83 = .ok (.invokevirtual 361, 3) := by decide +kernel
theorem dX11_safe_86 : decode cX11_safe 86 = .ok (.istore 6, 2) := by decide +kernel
theorem dX11_safe_88 : decode cX11_safe 88 = .ok (.aload_n 0, 1) := by decide +kernel
theorem dX11_safe_89 : decode cX11_safe 89 = .ok (.iload 6, 2) := by decide +kernel
theorem dX11_safe_91 : decode cX11_safe 91 = .ok (.invokevirtual 459, 3) := by decide +kernel
theorem dX11_safe_94 : decode cX11_safe 94 = .ok (.ifCond .eq 49, 3) := by decide +kernel
theorem dX11_safe_97 : decode cX11_safe 97 = .ok (.aload_n 0, 1) := by decide +kernel
theorem dX11_safe_98 : decode cX11_safe 98 = .ok (.getfield 63, 3) := by decide +kernel
theorem dX11_safe_101 : decode cX11_safe 101 = .ok (.iload 6, 2) := by decide +kernel
theorem dX11_safe_103 : decode cX11_safe 103 = .ok (.iaload, 1) := by decide +kernel
theorem dX11_safe_104 : decode cX11_safe 104 = .ok (.iconst (-1), 1) := by decide +kernel
theorem dX11_safe_105 : decode cX11_safe 105 = .ok (.if_icmp .eq 6, 3) := by decide +kernel
theorem dX11_safe_108 : decode cX11_safe 108 = .ok (.goto 35, 3) := by decide +kernel
theorem dX11_safe_111 : decode cX11_safe 111 = .ok (.aload_n 0, 1) := by decide +kernel
theorem dX11_safe_112 : decode cX11_safe 112 = .ok (.getfield 63, 3) := by decide +kernel
theorem dX11_safe_115 : decode cX11_safe 115 = .ok (.iload 6, 2) := by decide +kernel
theorem dX11_safe_117 : decode cX11_safe 117 = .ok (.aload_n 0, 1) := by decide +kernel
theorem dX11_safe_118 : decode cX11_safe 118 = .ok (.getfield 63, 3) := by decide +kernel
theorem dX11_safe_121 : decode cX11_safe 121 = .ok (.aload_n 0, 1) := by decide +kernel
theorem dX11_safe_122 : decode cX11_safe 122 = .ok (.getfield 66, 3) := by decide +kernel
theorem dX11_safe_125 : decode cX11_safe 125 = .ok (.iload 4, 2) := by decide +kernel
theorem dX11_safe_127 : decode cX11_safe 127 = .ok (.iaload, 1) := by decide +kernel
theorem dX11_safe_128 : decode cX11_safe 128 = .ok (.iaload, 1) := by decide +kernel
theorem dX11_safe_129 : decode cX11_safe 129 = .ok (.iconst 1, 1) := by decide +kernel
theorem dX11_safe_130 : decode cX11_safe 130 = .ok (.iadd, 1) := by decide +kernel
theorem dX11_safe_131 : decode cX11_safe 131 = .ok (.iastore, 1) := by decide +kernel
theorem dX11_safe_132 : decode cX11_safe 132 = .ok (.aload_n 0, 1) := by decide +kernel
theorem dX11_safe_133 : decode cX11_safe 133 = .ok (.getfield 66, 3) := by decide +kernel
theorem dX11_safe_136 : decode cX11_safe 136 = .ok (.iload_n 3, 1) := by decide +kernel
theorem dX11_safe_137 : decode cX11_safe 137 = .ok (.iload 6, 2) := by decide +kernel
theorem dX11_safe_139 : decode cX11_safe 139 = .ok (.iastore, 1) := by decide +kernel
theorem dX11_safe_140 : decode cX11_safe 140 = .ok (.iinc 3 1, 3) := by decide +kernel
theorem dX11_safe_143 : decode cX11_safe 143 = .ok (.iinc 5 1, 3) := by decide +kernel
theorem dX11_safe_146 : decode cX11_safe 146 = .ok (.goto (-79), 3) := by decide +kernel
theorem dX11_safe_149 : decode cX11_safe 149 = .ok (.iinc 4 1, 3) := by decide +kernel
theorem dX11_safe_152 : decode cX11_safe 152 = .ok (.goto (-94), 3) := by decide +kernel
theorem dX11_safe_155 : decode cX11_safe 155 = .ok (.aload_n 0, 1) := by decide +kernel
theorem dX11_safe_156 : decode cX11_safe 156 = .ok (.getfield 63, 3) := by decide +kernel
theorem dX11_safe_159 : decode cX11_safe 159 = .ok (.iload_n 2, 1) := by decide +kernel
theorem dX11_safe_160 : decode cX11_safe 160 = .ok (.iaload, 1) := by decide +kernel
theorem dX11_safe_161 : decode cX11_safe 161 = .ok (.ireturn, 1) := by decide +kernel
theorem dX11_isComeTo_0 : decode cX11_isComeTo 0 = .ok (.aload_n 0, 1) := by decide +kernel
theorem dX11_isComeTo_1 : decode cX11_isComeTo 1 = .ok (.getfield 63, 3) := by decide +kernel
theorem dX11_isComeTo_4 : decode cX11_isComeTo 4 = .ok (.iload_n 1, 1) := by decide +kernel
theorem dX11_isComeTo_5 : decode cX11_isComeTo 5 = .ok (.iaload, 1) := by decide +kernel
theorem dX11_isComeTo_6 : decode cX11_isComeTo 6 = .ok (.iconst (-1), 1) := by decide +kernel
theorem dX11_isComeTo_7 : decode cX11_isComeTo 7 = .ok (.if_icmp .eq 4, 3) := by decide +kernel
theorem dX11_isComeTo_10 : decode cX11_isComeTo 10 = .ok (.return_, 1) := by decide +kernel
theorem dX11_isComeTo_11 : decode cX11_isComeTo 11 = .ok (.aload_n 0, 1) := by decide +kernel
theorem dX11_isComeTo_12 : decode cX11_isComeTo 12 = .ok (.getfield 63, 3) := by decide +kernel
theorem dX11_isComeTo_15 : decode cX11_isComeTo 15 = .ok (.iload_n 1, 1) := by decide +kernel
theorem dX11_isComeTo_16 : decode cX11_isComeTo 16 = .ok (.iload_n 2, 1) := by decide +kernel
theorem dX11_isComeTo_17 : decode cX11_isComeTo 17 = .ok (.iastore, 1) := by decide +kernel
theorem dX11_isComeTo_18 : decode cX11_isComeTo 18 = .ok (.aload_n 0, 1) := by decide +kernel
theorem dX11_isComeTo_19 : decode cX11_isComeTo 19 = .ok (.getfield 66, 3) := by decide +kernel
theorem dX11_isComeTo_22 : decode cX11_isComeTo 22 = .ok (.aload_n 0, 1) := by decide +kernel
theorem dX11_isComeTo_23 : decode cX11_isComeTo 23 = .ok (.getfield 462, 3) := by decide +kernel
theorem dX11_isComeTo_26 : decode cX11_isComeTo 26 = .ok (.iload_n 1, 1) := by decide +kernel
theorem dX11_isComeTo_27 : decode cX11_isComeTo 27 = .ok (.iastore, 1) := by decide +kernel
theorem dX11_isComeTo_28 : decode cX11_isComeTo 28 = .ok (.aload_n 0, 1) := by decide +kernel
theorem dX11_isComeTo_29 : decode cX11_isComeTo 29 = .ok (.dup, 1) := by decide +kernel
theorem dX11_isComeTo_30 : decode cX11_isComeTo 30 = .ok (.getfield 462, 3) := by decide +kernel
theorem dX11_isComeTo_33 : decode cX11_isComeTo 33 = .ok (.iconst 1, 1) := by decide +kernel
theorem dX11_isComeTo_34 : decode cX11_isComeTo 34 = .ok (.iadd, 1) := by decide +kernel
theorem dX11_isComeTo_35 : decode cX11_isComeTo 35 = .ok (.putfield 462, 3) := by decide +kernel
theorem dX11_isComeTo_38 : decode cX11_isComeTo 38 = .ok (.return_, 1) := by decide +kernel
theorem dX11_goesIn_0 : decode cX11_goesIn 0 = .ok (.aload_n 0, 1) := by decide +kernel
theorem dX11_goesIn_1 : decode cX11_goesIn 1 = .ok (.getfield 69, 3) := by decide +kernel
theorem dX11_goesIn_4 : decode cX11_goesIn 4 = .ok (.iload_n 1, 1) := by decide +kernel
theorem dX11_goesIn_5 : decode cX11_goesIn 5 = .ok (.iaload, 1) := by decide +kernel
theorem dX11_goesIn_6 : decode cX11_goesIn 6 = .ok (.ifCond .ne 15, 3) := by decide +kernel
theorem dX11_goesIn_9 : decode cX11_goesIn 9 = .ok (.aload_n 0, 1) := by decide +kernel
theorem dX11_goesIn_10 : decode cX11_goesIn 10 = .ok (.iconst 2, 1) := by decide +kernel
theorem dX11_goesIn_11 : decode cX11_goesIn 11 = .ok (.iload_n 1, 1) := by decide +kernel
theorem dX11_goesIn_12 : decode cX11_goesIn 12 = .ok (.imul, 1) := by decide +kernel
theorem dX11_goesIn_13 : decode cX11_goesIn 13 = .ok (.iconst 1, 1) := by decide +kernel
theorem dX11_goesIn_14 : decode cX11_goesIn 14 = .ok (.iadd, 1) := by decide +kernel
theorem dX11_goesIn_15 : decode cX11_goesIn 15 = .ok (.iconst 2, 1) := by decide +kernel
theorem dX11_goesIn_16 : decode cX11_goesIn 16 = .ok (.iload_n 1, 1) := by decide +kernel
theorem dX11_goesIn_17 : decode cX11_goesIn 17 = .ok (.imul, 1) := by decide +kernel
theorem dX11_goesIn_18 : decode cX11_goesIn 18 = .ok (.invokevirtual 465, 3) := by decide +kernel
theorem dX11_goesIn_21 : decode cX11_goesIn 21 = .ok (.iconst 0, 1) := by decide +kernel
theorem dX11_goesIn_22 : decode cX11_goesIn 22 = .ok (.istore_n 2, 1) := by decide +kernel
theorem dX11_goesIn_23 : decode cX11_goesIn 23 = .ok (.iload_n 2, 1) := by decide +kernel
theorem dX11_goesIn_24 : decode cX11_goesIn 24 = .ok (.iconst 4, 1) := by decide +kernel
theorem dX11_goesIn_25 : decode cX11_goesIn 25 = .ok (.if_icmp .ge 54, 3) := by decide +kernel
theorem dX11_goesIn_28 : decode cX11_goesIn 28 = .ok (.aload_n 0, 1) := by decide +kernel
theorem dX11_goesIn_29 : decode cX11_goesIn 29 = .ok (.iload_n 1, 1) := by decide +kernel
theorem dX11_goesIn_30 : decode cX11_goesIn 30 = .ok (.iload_n 2, 1) := by decide +kernel
theorem dX11_goesIn_31 : decode cX11_goesIn 31 = .ok (.invokevirtual 361, 3) := by decide +kernel
theorem dX11_goesIn_34 : decode cX11_goesIn 34 = .ok (.istore_n 3, 1) := by decide +kernel
theorem dX11_goesIn_35 : decode cX11_goesIn 35 = .ok (.aload_n 0, 1) := by decide +kernel
theorem dX11_goesIn_36 : decode cX11_goesIn 36 = .ok (.iload_n 3, 1) := by decide +kernel
theorem dX11_goesIn_37 : decode cX11_goesIn 37 = .ok (.invokevirtual 459, 3) := by decide +kernel
theorem dX11_goesIn_40 : decode cX11_goesIn 40 = .ok (.ifCond .eq 33, 3) := by decide +kernel
theorem dX11_goesIn_43 : decode cX11_goesIn 43 = .ok (.aload_n 0, 1) := by decide +kernel
theorem dX11_goesIn_44 : decode cX11_goesIn 44 = .ok (.getfield 72, 3) := by decide +kernel
theorem dX11_goesIn_47 : decode cX11_goesIn 47 = .ok (.iconst 4, 1) := by decide +kernel
theorem dX11_goesIn_48 : decode cX11_goesIn 48 = .ok (.iload_n 3, 1) := by decide +kernel
theorem dX11_goesIn_49 : decode cX11_goesIn 49 = .ok (.imul, 1) := by decide +kernel
theorem dX11_goesIn_50 : decode cX11_goesIn 50 = .ok (.iload_n 2, 1) := by decide +kernel
theorem dX11_goesIn_51 : decode cX11_goesIn 51 = .ok (.iconst 2, 1) := by decide +kernel
theorem dX11_goesIn_52 : decode cX11_goesIn 52 = .ok (.iadd, 1) := by decide +kernel
theorem dX11_goesIn_53 : decode cX11_goesIn 53 = .ok (.iconst 4, 1) := by decide +kernel
theorem dX11_goesIn_54 : decode cX11_goesIn 54 = .ok (.irem, 1) := by decide +kernel
theorem dX11_goesIn_55 : decode cX11_goesIn 55 = .ok (.iadd, 1) := by decide +kernel
theorem dX11_goesIn_56 : decode cX11_goesIn 56 = .ok (.iaload, 1) := by decide +kernel
theorem dX11_goesIn_57 : decode cX11_goesIn 57 = .ok (.iconst 1, 1) := by decide +kernel
theorem dX11_goesIn_58 : decode cX11_goesIn 58 = .ok (.if_icmp .ne 15, 3) := by decide +kernel
theorem dX11_goesIn_61 : decode cX11_goesIn 61 = .ok (.aload_n 0, 1) := by decide +kernel
theorem dX11_goesIn_62 : decode cX11_goesIn 62 = .ok (.iconst 2, 1) := by decide +kernel
theorem dX11_goesIn_63 : decode cX11_goesIn 63 = .ok (.iload_n 3, 1) := by decide +kernel
theorem dX11_goesIn_64 : decode cX11_goesIn 64 = .ok (.imul, 1) := by decide +kernel
theorem dX11_goesIn_65 : decode cX11_goesIn 65 = .ok (.iconst 1, 1) := by decide +kernel
theorem dX11_goesIn_66 : decode cX11_goesIn 66 = .ok (.iadd, 1) := by decide +kernel
theorem dX11_goesIn_67 : decode cX11_goesIn 67 = .ok (.iconst 2, 1) := by decide +kernel
theorem dX11_goesIn_68 : decode cX11_goesIn 68 = .ok (.iload_n 1, 1) := by decide +kernel
theorem dX11_goesIn_69 : decode cX11_goesIn 69 = .ok (.imul, 1) := by decide +kernel
theorem dX11_goesIn_70 : decode cX11_goesIn 70 = .ok (.invokevirtual 465, 3) := by decide +kernel
theorem dX11_goesIn_73 : decode cX11_goesIn 73 = .ok (.iinc 2 1, 3) := by decide +kernel
theorem dX11_goesIn_76 : decode cX11_goesIn 76 = .ok (.goto (-53), 3) := by decide +kernel
theorem dX11_goesIn_79 : decode cX11_goesIn 79 = .ok (.return_, 1) := by decide +kernel
theorem dX11_goesOut_0 : decode cX11_goesOut 0 = .ok (.aload_n 0, 1) := by decide +kernel
theorem dX11_goesOut_1 : decode cX11_goesOut 1 = .ok (.getfield 69, 3) := by decide +kernel
theorem dX11_goesOut_4 : decode cX11_goesOut 4 = .ok (.iload_n 1, 1) := by decide +kernel
theorem dX11_goesOut_5 : decode cX11_goesOut 5 = .ok (.iaload, 1) := by decide +kernel
theorem dX11_goesOut_6 : decode cX11_goesOut 6 = .ok (.iconst 1, 1) := by decide +kernel
theorem dX11_goesOut_7 : decode cX11_goesOut 7 = .ok (.if_icmp .ne 15, 3) := by decide +kernel
theorem dX11_goesOut_10 : decode cX11_goesOut 10 = .ok (.aload_n 0, 1) := by decide +kernel
theorem dX11_goesOut_11 : decode cX11_goesOut 11 = .ok (.iconst 2, 1) := by decide +kernel
theorem dX11_goesOut_12 : decode cX11_goesOut 12 = .ok (.iload_n 1, 1) := by decide +kernel
theorem dX11_goesOut_13 : decode cX11_goesOut 13 = .ok (.imul, 1) := by decide +kernel
theorem dX11_goesOut_14 : decode cX11_goesOut 14 = .ok (.iconst 2, 1) := by decide +kernel
theorem dX11_goesOut_15 : decode cX11_goesOut 15 = .ok (.iload_n 1, 1) := by decide +kernel
theorem dX11_goesOut_16 : decode cX11_goesOut 16 = .ok (.imul, 1) := by decide +kernel
theorem dX11_goesOut_17 : decode cX11_goesOut 17 = .ok (.iconst 1, 1) := by decide +kernel
theorem dX11_goesOut_18 : decode cX11_goesOut 18 = .ok (.iadd, 1) := by decide +kernel
theorem dX11_goesOut_19 : decode cX11_goesOut 19 = .ok (.invokevirtual 465, 3) := by decide +kernel
theorem dX11_goesOut_22 : decode cX11_goesOut 22 = .ok (.iconst 0, 1) := by decide +kernel
theorem dX11_goesOut_23 : decode cX11_goesOut 23 = .ok (.istore_n 2, 1) := by decide +kernel
theorem dX11_goesOut_24 : decode cX11_goesOut 24 = .ok (.iload_n 2, 1) := by decide +kernel
theorem dX11_goesOut_25 : decode cX11_goesOut 25 = .ok (.iconst 4, 1) := by decide +kernel
theorem dX11_goesOut_26 : decode cX11_goesOut 26 = .ok (.if_icmp .ge 49, 3) := by decide +kernel
theorem dX11_goesOut_29 : decode cX11_goesOut 29 = .ok (.aload_n 0, 1) := by decide +kernel
theorem dX11_goesOut_30 : decode cX11_goesOut 30 = .ok (.iload_n 1, 1) := by decide +kernel
theorem dX11_goesOut_31 : decode cX11_goesOut 31 = .ok (.iload_n 2, 1) := by decide +kernel
theorem dX11_goesOut_32 : decode cX11_goesOut 32 = .ok (.invokevirtual 361, 3) := by decide +kernel
theorem dX11_goesOut_35 : decode cX11_goesOut 35 = .ok (.istore_n 3, 1) := by decide +kernel
theorem dX11_goesOut_36 : decode cX11_goesOut 36 = .ok (.aload_n 0, 1) := by decide +kernel
theorem dX11_goesOut_37 : decode cX11_goesOut 37 = .ok (.iload_n 3, 1) := by decide +kernel
theorem dX11_goesOut_38 : decode cX11_goesOut 38 = .ok (.invokevirtual 459, 3) := by decide +kernel
theorem dX11_goesOut_41 : decode cX11_goesOut 41 = .ok (.ifCond .eq 28, 3) := by decide +kernel
theorem dX11_goesOut_44 : decode cX11_goesOut 44 = .ok (.aload_n 0, 1) := by decide +kernel
theorem dX11_goesOut_45 : decode cX11_goesOut 45 = .ok (.getfield 72, 3) := by decide +kernel
theorem dX11_goesOut_48 : decode cX11_goesOut 48 = .ok (.iconst 4, 1) := by decide +kernel
theorem dX11_goesOut_49 : decode cX11_goesOut 49 = .ok (.iload_n 1, 1) := by decide +kernel
theorem dX11_goesOut_50 : decode cX11_goesOut 50 = .ok (.imul, 1) := by decide +kernel
theorem dX11_goesOut_51 : decode cX11_goesOut 51 = .ok (.iload_n 2, 1) := by decide +kernel
theorem dX11_goesOut_52 : decode cX11_goesOut 52 = .ok (.iadd, 1) := by decide +kernel
theorem dX11_goesOut_53 : decode cX11_goesOut 53 = .ok (.iaload, 1) := by decide +kernel
theorem dX11_goesOut_54 : decode cX11_goesOut 54 = .ok (.ifCond .ne 15, 3) := by decide +kernel
theorem dX11_goesOut_57 : decode cX11_goesOut 57 = .ok (.aload_n 0, 1) := by decide +kernel
theorem dX11_goesOut_58 : decode cX11_goesOut 58 = .ok (.iconst 2, 1) := by decide +kernel
theorem dX11_goesOut_59 : decode cX11_goesOut 59 = .ok (.iload_n 3, 1) := by decide +kernel
theorem dX11_goesOut_60 : decode cX11_goesOut 60 = .ok (.imul, 1) := by decide +kernel
theorem dX11_goesOut_61 : decode cX11_goesOut 61 = .ok (.iconst 2, 1) := by decide +kernel
theorem dX11_goesOut_62 : decode cX11_goesOut 62 = .ok (.iload_n 1, 1) := by decide +kernel
theorem dX11_goesOut_63 : decode cX11_goesOut 63 = .ok (.imul, 1) := by decide +kernel
theorem dX11_goesOut_64 : decode cX11_goesOut 64 = .ok (.iconst 1, 1) := by decide +kernel
theorem dX11_goesOut_65 : decode cX11_goesOut 65 = .ok (.iadd, 1) := by decide +kernel
theorem dX11_goesOut_66 : decode cX11_goesOut 66 = .ok (.invokevirtual 465, 3) := by decide +kernel
theorem dX11_goesOut_69 : decode cX11_goesOut 69 = .ok (.iinc 2 1, 3) := by decide +kernel
theorem dX11_goesOut_72 : decode cX11_goesOut 72 = .ok (.goto (-48), 3) := by decide +kernel
theorem dX11_goesOut_75 : decode cX11_goesOut 75 = .ok (.return_, 1) := by decide +kernel
theorem dX11_wayTo_0 : decode cX11_wayTo 0 = .ok (.iconst 0, 1) := by decide +kernel
theorem dX11_wayTo_1 : decode cX11_wayTo 1 = .ok (.istore_n 3, 1) := by decide +kernel
theorem dX11_wayTo_2 : decode cX11_wayTo 2 = .ok (.aload_n 0, 1) := by decide +kernel
theorem dX11_wayTo_3 : decode cX11_wayTo 3 = .ok (.iload_n 1, 1) := by decide +kernel
theorem dX11_wayTo_4 : decode cX11_wayTo 4 = .ok (.iload_n 3, 1) := by decide +kernel
theorem dX11_wayTo_5 : decode cX11_wayTo 5 = .ok (.invokevirtual 361, 3) := by decide +kernel
theorem dX11_wayTo_8 : decode cX11_wayTo 8 = .ok (.iload_n 2, 1) := by decide +kernel
theorem dX11_wayTo_9 : decode cX11_wayTo 9 = .ok (.if_icmp .eq 9, 3) := by decide +kernel
theorem dX11_wayTo_12 : decode cX11_wayTo 12 = .ok (.iinc 3 1, 3) := by decide +kernel
theorem dX11_wayTo_15 : decode cX11_wayTo 15 = .ok (.goto (-13), 3) := by decide +kernel
theorem dX11_wayTo_18 : decode cX11_wayTo 18 = .ok (.iload_n 3, 1) := by decide +kernel
theorem dX11_wayTo_19 : decode cX11_wayTo 19 = .ok (.ireturn, 1) := by decide +kernel
theorem dX11_turns_0 : decode cX11_turns 0 = .ok (.iload_n 1, 1) := by decide +kernel
theorem dX11_turns_1 : decode cX11_turns 1 = .ok (.iconst 2, 1) := by decide +kernel
theorem dX11_turns_2 : decode cX11_turns 2 = .ok (.idiv, 1) := by decide +kernel
theorem dX11_turns_3 : decode cX11_turns 3 = .ok (.istore_n 3, 1) := by decide +kernel
theorem dX11_turns_4 : decode cX11_turns 4 = .ok (.iload_n 2, 1) := by decide +kernel
theorem dX11_turns_5 : decode cX11_turns 5 = .ok (.iconst 2, 1) := by decide +kernel
theorem dX11_turns_6 : decode cX11_turns 6 = .ok (.idiv, 1) := by decide +kernel
theorem dX11_turns_7 : decode cX11_turns 7 = .ok (.istore 4, 2) := by decide +kernel
theorem dX11_turns_9 : decode cX11_turns 9 = .ok (.iload_n 3, 1) := by decide +kernel
theorem dX11_turns_10 : decode cX11_turns 10 = .ok (.iload 4, 2) := by decide +kernel
theorem dX11_turns_12 : decode cX11_turns 12 = .ok (.if_icmp .ne 23, 3) := by decide +kernel
theorem dX11_turns_15 : decode cX11_turns 15 = .ok (.aload_n 0, 1) := by decide +kernel
theorem dX11_turns_16 : decode cX11_turns 16 = .ok (.getfield 69, 3) := by decide +kernel
theorem dX11_turns_19 : decode cX11_turns 19 = .ok (.iload_n 3, 1) := by decide +kernel
theorem dX11_turns_20 : decode cX11_turns 20 = .ok (.iload_n 1, 1) := by decide +kernel
theorem dX11_turns_21 : decode cX11_turns 21 = .ok (.iconst 2, 1) := by decide +kernel
theorem dX11_turns_22 : decode cX11_turns 22 = .ok (.irem, 1) := by decide +kernel
theorem dX11_turns_23 : decode cX11_turns 23 = .ok (.ifCond .ne 7, 3) := by decide +kernel
theorem dX11_turns_26 : decode cX11_turns 26 = .ok (.iconst 1, 1) := by decide +kernel
theorem dX11_turns_27 : decode cX11_turns 27 = .ok (.goto 4, 3) := by decide +kernel
theorem dX11_turns_30 : decode cX11_turns 30 = .ok (.iconst 0, 1) := by decide +kernel
theorem dX11_turns_31 : decode cX11_turns 31 = .ok (.iastore, 1) := by decide +kernel
theorem dX11_turns_32 : decode cX11_turns 32 = .ok (.goto 48, 3) := by decide +kernel
theorem dX11_turns_35 : decode cX11_turns 35 = .ok (.iload_n 1, 1) := by decide +kernel
theorem dX11_turns_36 : decode cX11_turns 36 = .ok (.iconst 2, 1) := by decide +kernel
theorem dX11_turns_37 : decode cX11_turns 37 = .ok (.irem, 1) := by decide +kernel
theorem dX11_turns_38 : decode cX11_turns 38 = .ok (.iconst 1, 1) := by decide +kernel
theorem dX11_turns_39 : decode cX11_turns 39 = .ok (.if_icmp .ne 23, 3) := by decide +kernel
theorem dX11_turns_42 : decode cX11_turns 42 = .ok (.aload_n 0, 1) := by decide +kernel
theorem dX11_turns_43 : decode cX11_turns 43 = .ok (.getfield 72, 3) := by decide +kernel
theorem dX11_turns_46 : decode cX11_turns 46 = .ok (.iconst 4, 1) := by decide +kernel
theorem dX11_turns_47 : decode cX11_turns 47 = .ok (.iload_n 3, 1) := by decide +kernel
theorem dX11_turns_48 : decode cX11_turns 48 = .ok (.imul, 1) := by decide +kernel
theorem dX11_turns_49 : decode cX11_turns 49 = .ok (.aload_n 0, 1) := by decide +kernel
theorem dX11_turns_50 : decode cX11_turns 50 = .ok (.iload_n 3, 1) := by decide +kernel
theorem dX11_turns_51 : decode cX11_turns 51 = .ok (.iload 4, 2) := by decide +kernel
theorem dX11_turns_53 : decode cX11_turns 53 = .ok (.invokevirtual 468, 3) := by decide +kernel
theorem dX11_turns_56 : decode cX11_turns 56 = .ok (.iadd, 1) := by decide +kernel
theorem dX11_turns_57 : decode cX11_turns 57 = .ok (.iconst 1, 1) := by decide +kernel
theorem dX11_turns_58 : decode cX11_turns 58 = .ok (.iastore, 1) := by decide +kernel
theorem dX11_turns_59 : decode cX11_turns 59 = .ok (.goto 21, 3) := by decide +kernel
theorem dX11_turns_62 : decode cX11_turns 62 = .ok (.aload_n 0, 1) := by decide +kernel
theorem dX11_turns_63 : decode cX11_turns 63 = .ok (.getfield 72, 3) := by decide +kernel
theorem dX11_turns_66 : decode cX11_turns 66 = .ok (.iconst 4, 1) := by decide +kernel
theorem dX11_turns_67 : decode cX11_turns 67 = .ok (.iload 4, 2) := by decide +kernel
theorem dX11_turns_69 : decode cX11_turns 69 = .ok (.imul, 1) := by decide +kernel
theorem dX11_turns_70 : decode cX11_turns 70 = .ok (.aload_n 0, 1) := by decide +kernel
theorem dX11_turns_71 : decode cX11_turns 71 = .ok (.iload 4, 2) := by decide +kernel
theorem dX11_turns_73 : decode cX11_turns 73 = .ok (.iload_n 3, 1) := by decide +kernel
theorem dX11_turns_74 : decode cX11_turns 74 = .ok (.invokevirtual 468, 3) := by decide +kernel
theorem dX11_turns_77 : decode cX11_turns 77 = .ok (.iadd, 1) := by decide +kernel
theorem dX11_turns_78 : decode cX11_turns 78 = .ok (.iconst 0, 1) := by decide +kernel
theorem dX11_turns_79 : decode cX11_turns 79 = .ok (.iastore, 1) := by decide +kernel
theorem dX11_turns_80 : decode cX11_turns 80 = .ok (.return_, 1) := by decide +kernel
theorem dX11_hasWay_0 : decode cX11_hasWay 0 = .ok (.iconst 0, 1) := by decide +kernel
theorem dX11_hasWay_1 : decode cX11_hasWay 1 = .ok (.istore_n 3, 1) := by decide +kernel
theorem dX11_hasWay_2 : decode cX11_hasWay 2 = .ok (.iload_n 3, 1) := by decide +kernel
theorem dX11_hasWay_3 : decode cX11_hasWay 3 = .ok (.sipush 128, 3) := by decide +kernel
theorem dX11_hasWay_6 : decode cX11_hasWay 6 = .ok (.if_icmp .ge 16, 3) := by decide +kernel
theorem dX11_hasWay_9 : decode cX11_hasWay 9 = .ok (.aload_n 0, 1) := by decide +kernel
theorem dX11_hasWay_10 : decode cX11_hasWay 10 = .ok (.getfield 63, 3) := by decide +kernel
theorem dX11_hasWay_13 : decode cX11_hasWay 13 = .ok (.iload_n 3, 1) := by decide +kernel
theorem dX11_hasWay_14 : decode cX11_hasWay 14 = .ok (.iconst (-1), 1) := by decide +kernel
theorem dX11_hasWay_15 : decode cX11_hasWay 15 = .ok (.iastore, 1) := by decide +kernel
theorem dX11_hasWay_16 : decode cX11_hasWay 16 = .ok (.iinc 3 1, 3) := by decide +kernel
theorem dX11_hasWay_19 : decode cX11_hasWay 19 = .ok (.goto (-17), 3) := by decide +kernel
theorem dX11_hasWay_22 : decode cX11_hasWay 22 = .ok (.aload_n 0, 1) := by decide +kernel
theorem dX11_hasWay_23 : decode cX11_hasWay 23 = .ok (.iconst 0, 1) := by decide +kernel
theorem dX11_hasWay_24 : decode cX11_hasWay 24 = .ok (.putfield 462, 3) := by decide +kernel
theorem dX11_hasWay_27 : decode cX11_hasWay 27 = .ok (.aload_n 0, 1) := by decide +kernel
theorem dX11_hasWay_28 : decode cX11_hasWay 28 = .ok (.iconst 2, 1) := by decide +kernel
theorem dX11_hasWay_29 : decode cX11_hasWay 29 = .ok (.iload_n 1, 1) := by decide +kernel
theorem dX11_hasWay_30 : decode cX11_hasWay 30 = .ok (.imul, 1) := by decide +kernel
theorem dX11_hasWay_31 : decode cX11_hasWay 31 = .ok (.iconst 1, 1) := by decide +kernel
theorem dX11_hasWay_32 : decode cX11_hasWay 32 = .ok (.iadd, 1) := by decide +kernel
theorem dX11_hasWay_33 : decode cX11_hasWay 33 = .ok (.iconst 2, 1) := by decide +kernel
theorem dX11_hasWay_34 : decode cX11_hasWay 34 = .ok (.iload_n 1, 1) := by decide +kernel
theorem dX11_hasWay_35 : decode cX11_hasWay 35 = .ok (.imul, 1) := by decide +kernel
theorem dX11_hasWay_36 : decode cX11_hasWay 36 = .ok (.iconst 1, 1) := by decide +kernel
theorem dX11_hasWay_37 : decode cX11_hasWay 37 = .ok (.iadd, 1) := by decide +kernel
theorem dX11_hasWay_38 : decode cX11_hasWay 38 = .ok (.invokevirtual 465, 3) := by decide +kernel
theorem dX11_hasWay_41 : decode cX11_hasWay 41 = .ok (.iconst 0, 1) := by decide +kernel
theorem dX11_hasWay_42 : decode cX11_hasWay 42 = .ok (.istore_n 3, 1) := by decide +kernel
theorem dX11_hasWay_43 : decode cX11_hasWay 43 = .ok (.iload_n 3, 1) := by decide +kernel
theorem dX11_hasWay_44 : decode cX11_hasWay 44 = .ok (.aload_n 0, 1) := by decide +kernel
theorem dX11_hasWay_45 : decode cX11_hasWay 45 = .ok (.getfield 462, 3) := by decide +kernel
theorem dX11_hasWay_48 : decode cX11_hasWay 48 = .ok (.if_icmp .ge 59, 3) := by decide +kernel
theorem dX11_hasWay_51 : decode cX11_hasWay 51 = .ok (.aload_n 0, 1) := by decide +kernel
theorem dX11_hasWay_52 : decode cX11_hasWay 52 = .ok (.getfield 63, 3) := by decide +kernel
theorem dX11_hasWay_55 : decode cX11_hasWay 55 = .ok (.iconst 2, 1) := by decide +kernel
theorem dX11_hasWay_56 : decode cX11_hasWay 56 = .ok (.iload_n 2, 1) := by decide +kernel
theorem dX11_hasWay_57 : decode cX11_hasWay 57 = .ok (.imul, 1) := by decide +kernel
theorem dX11_hasWay_58 : decode cX11_hasWay 58 = .ok (.iaload, 1) := by decide +kernel
theorem dX11_hasWay_59 : decode cX11_hasWay 59 = .ok (.iconst (-1), 1) := by decide +kernel
theorem dX11_hasWay_60 : decode cX11_hasWay 60 = .ok (.if_icmp .ne 47, 3) := by decide +kernel
theorem dX11_hasWay_63 : decode cX11_hasWay 63 = .ok (.aload_n 0, 1) := by decide +kernel
theorem dX11_hasWay_64 : decode cX11_hasWay 64 = .ok (.getfield 66, 3) := by decide +kernel
theorem dX11_hasWay_67 : decode cX11_hasWay 67 = .ok (.iload_n 3, 1) := by decide +kernel
theorem dX11_hasWay_68 : decode cX11_hasWay 68 = .ok (.iaload, 1) := by decide +kernel
theorem dX11_hasWay_69 : decode cX11_hasWay 69 = .ok (.iconst 2, 1) := by decide +kernel
theorem dX11_hasWay_70 : decode cX11_hasWay 70 = .ok (.irem, 1) := by decide +kernel
theorem dX11_hasWay_71 : decode cX11_hasWay 71 = .ok (.ifCond .ne 18, 3) := by decide +kernel
theorem dX11_hasWay_74 : decode cX11_hasWay 74 = .ok (.aload_n 0, 1) := by decide +kernel
theorem dX11_hasWay_75 : decode cX11_hasWay 75 = .ok (.aload_n 0, 1) := by decide +kernel
theorem dX11_hasWay_76 : decode cX11_hasWay 76 = .ok (.getfield 66, 3) := by decide +kernel
theorem dX11_hasWay_79 : decode cX11_hasWay 79 = .ok (.iload_n 3, 1) := by decide +kernel
theorem dX11_hasWay_80 : decode cX11_hasWay 80 = .ok (.iaload, 1) := by decide +kernel
theorem dX11_hasWay_81 : decode cX11_hasWay 81 = .ok (.iconst 2, 1) := by decide +kernel
theorem dX11_hasWay_82 : decode cX11_hasWay 82 = .ok (.idiv, 1) := by decide +kernel
theorem dX11_hasWay_83 : decode cX11_hasWay 83 = .ok (.invokevirtual 471, 3) := by decide +kernel
theorem dX11_hasWay_86 : decode cX11_hasWay 86 = .ok (.goto 15, 3) := by decide +kernel
theorem dX11_hasWay_89 : decode cX11_hasWay 89 = .ok (.aload_n 0, 1) := by decide +kernel
theorem dX11_hasWay_90 : decode cX11_hasWay 90 = .ok (.aload_n 0, 1) := by decide +kernel
theorem dX11_hasWay_91 : decode cX11_hasWay 91 = .ok (.getfield 66, 3) := by decide +kernel
theorem dX11_hasWay_94 : decode cX11_hasWay 94 = .ok (.iload_n 3, 1) := by decide +kernel
theorem dX11_hasWay_95 : decode cX11_hasWay 95 = .ok (.iaload, 1) := by decide +kernel
theorem dX11_hasWay_96 : decode cX11_hasWay 96 = .ok (.iconst 2, 1) := by decide +kernel
theorem dX11_hasWay_97 : decode cX11_hasWay 97 = .ok (.idiv, 1) := by decide +kernel
theorem dX11_hasWay_98 : decode cX11_hasWay 98 = .ok (.invokevirtual 474, 3) := by decide +kernel
theorem dX11_hasWay_101 : decode cX11_hasWay 101 = .ok (.iinc 3 1, 3) := by decide +kernel
theorem dX11_hasWay_104 : decode cX11_hasWay 104 = .ok (.goto (-61), 3) := by decide +kernel
theorem dX11_hasWay_107 : decode cX11_hasWay 107 = .ok (.aload_n 0, 1) := by decide +kernel
theorem dX11_hasWay_108 : decode cX11_hasWay 108 = .ok (.getfield 63, 3) := by decide +kernel
theorem dX11_hasWay_111 : decode cX11_hasWay 111 = .ok (.iconst 2, 1) := by decide +kernel
theorem dX11_hasWay_112 : decode cX11_hasWay 112 = .ok (.iload_n 2, 1) := by decide +kernel
theorem dX11_hasWay_113 : decode cX11_hasWay 113 = .ok (.imul, 1) := by decide +kernel
theorem dX11_hasWay_114 : decode cX11_hasWay 114 = .ok (.iaload, 1) := by decide +kernel
theorem dX11_hasWay_115 : decode cX11_hasWay 115 = .ok (.iconst (-1), 1) := by decide +kernel
theorem dX11_hasWay_116 : decode cX11_hasWay 116 = .ok (.if_icmp .ne 5, 3) := by decide +kernel
theorem dX11_hasWay_119 : decode cX11_hasWay 119 = .ok (.iconst 0, 1) := by decide +kernel
theorem dX11_hasWay_120 : decode cX11_hasWay 120 = .ok (.ireturn, 1) := by decide +kernel
theorem dX11_hasWay_121 : decode cX11_hasWay 121 = .ok (.iconst 2, 1) := by decide +kernel
theorem dX11_hasWay_122 : decode cX11_hasWay 122 = .ok (.iload_n 2, 1) := by decide +kernel
theorem dX11_hasWay_123 : decode cX11_hasWay 123 = .ok (.imul, 1) := by decide +kernel
theorem dX11_hasWay_124 : decode cX11_hasWay 124 = .ok (.istore_n 3, 1) := by decide +kernel
theorem dX11_hasWay_125 : decode cX11_hasWay 125 = .ok (.iload_n 3, 1) := by decide +kernel
theorem dX11_hasWay_126 : decode cX11_hasWay 126 = .ok (.iconst 2, 1) := by decide +kernel
theorem dX11_hasWay_127 : decode cX11_hasWay 127 = .ok (.iload_n 1, 1) := by decide +kernel
theorem dX11_hasWay_128 : decode cX11_hasWay 128 = .ok (.imul, 1) := by decide +kernel
theorem dX11_hasWay_129 : decode cX11_hasWay 129 = .ok (.iconst 1, 1) := by decide +kernel
theorem dX11_hasWay_130 : decode cX11_hasWay 130 = .ok (.iadd, 1) := by decide +kernel
theorem dX11_hasWay_131 : decode cX11_hasWay 131 = .ok (.if_icmp .eq 24, 3) := by decide +kernel
theorem dX11_hasWay_134 : decode cX11_hasWay 134 = .ok (.aload_n 0, 1) := by decide +kernel
theorem dX11_hasWay_135 : decode cX11_hasWay 135 = .ok (.aload_n 0, 1) := by decide +kernel
theorem dX11_hasWay_136 : decode cX11_hasWay 136 = .ok (.getfield 63, 3) := by decide +kernel
theorem dX11_hasWay_139 : decode cX11_hasWay 139 = .ok (.iload_n 3, 1) := by decide +kernel
theorem dX11_hasWay_140 : decode cX11_hasWay 140 = .ok (.iaload, 1) := by decide +kernel
theorem dX11_hasWay_141 : decode cX11_hasWay 141 = .ok (.iload_n 3, 1) := by decide +kernel
theorem dX11_hasWay_142 : decode cX11_hasWay 142 = .ok (.invokevirtual 477, 3) := by decide +kernel
theorem dX11_hasWay_145 : decode cX11_hasWay 145 = .ok (.aload_n 0, 1) := by decide +kernel
theorem dX11_hasWay_146 : decode cX11_hasWay 146 = .ok (.getfield 63, 3) := by decide +kernel
theorem dX11_hasWay_149 : decode cX11_hasWay 149 = .ok (.iload_n 3, 1) := by decide +kernel
theorem dX11_hasWay_150 : decode cX11_hasWay 150 = .ok (.iaload, 1) := by decide +kernel
theorem dX11_hasWay_151 : decode cX11_hasWay 151 = .ok (.istore_n 3, 1) := by decide +kernel
theorem dX11_hasWay_152 : decode cX11_hasWay 152 = .ok (.goto (-27), 3) := by decide +kernel
theorem dX11_hasWay_155 : decode cX11_hasWay 155 = .ok (.iconst 1, 1) := by decide +kernel
theorem dX11_hasWay_156 : decode cX11_hasWay 156 = .ok (.ireturn, 1) := by decide +kernel
theorem dX11_cut_0 : decode cX11_cut 0 = .ok (.aload_n 0, 1) := by decide +kernel
theorem dX11_cut_1 : decode cX11_cut 1 = .ok (.iload_n 1, 1) := by decide +kernel
theorem dX11_cut_2 : decode cX11_cut 2 = .ok (.invokevirtual 459, 3) := by decide +kernel
theorem dX11_cut_5 : decode cX11_cut 5 = .ok (.ifCond .eq 20, 3) := by decide +kernel
theorem dX11_cut_8 : decode cX11_cut 8 = .ok (.aload_n 0, 1) := by decide +kernel
theorem dX11_cut_9 : decode cX11_cut 9 = .ok (.iload_n 2, 1) := by decide +kernel
theorem dX11_cut_10 : decode cX11_cut 10 = .ok (.invokevirtual 459, 3) := by decide +kernel
theorem dX11_cut_13 : decode cX11_cut 13 = .ok (.ifCond .eq 12, 3) := by decide +kernel
theorem dX11_cut_16 : decode cX11_cut 16 = .ok (.iload_n 1, 1) := by decide +kernel
theorem dX11_cut_17 : decode cX11_cut 17 = .ok (.iload_n 2, 1) := by decide +kernel
theorem dX11_cut_18 : decode cX11_cut 18 = .ok (.invokestatic 345, 3) := by decide +kernel
theorem dX11_cut_21 : decode cX11_cut 21 = .ok (.iconst 2, 1) := by decide +kernel
theorem dX11_cut_22 : decode cX11_cut 22 = .ok (.if_icmp .ge 5, 3) := by decide +kernel
theorem dX11_cut_25 : decode cX11_cut 25 = .ok (.iconst (-1), 1) := by decide +kernel
theorem dX11_cut_26 : decode cX11_cut 26 = .ok (.ireturn, 1) := by decide +kernel
theorem dX11_cut_27 : decode cX11_cut 27 = .ok (.iconst 0, 1) := by decide +kernel
theorem dX11_cut_28 : decode cX11_cut 28 = .ok (.istore_n 3, 1) := by decide +kernel
theorem dX11_cut_29 : decode cX11_cut 29 = .ok (.iload_n 3, 1) := by decide +kernel
theorem dX11_cut_30 : decode cX11_cut 30 = .ok (.bipush 64, 2) := by decide +kernel
theorem dX11_cut_32 : decode cX11_cut 32 = .ok (.if_icmp .ge 16, 3) := by decide +kernel
theorem dX11_cut_35 : decode cX11_cut 35 = .ok (.aload_n 0, 1) := by decide +kernel
theorem dX11_cut_36 : decode cX11_cut 36 = .ok (.getfield 69, 3) := by decide +kernel
theorem dX11_cut_39 : decode cX11_cut 39 = .ok (.iload_n 3, 1) := by decide +kernel
theorem dX11_cut_40 : decode cX11_cut 40 = .ok (.iconst 0, 1) := by decide +kernel
theorem dX11_cut_41 : decode cX11_cut 41 = .ok (.iastore, 1) := by decide +kernel
theorem dX11_cut_42 : decode cX11_cut 42 = .ok (.iinc 3 1, 3) := by decide +kernel
theorem dX11_cut_45 : decode cX11_cut 45 = .ok (.goto (-16), 3) := by decide +kernel
theorem dX11_cut_48 : decode cX11_cut 48 = .ok (.iconst 0, 1) := by decide +kernel
theorem dX11_cut_49 : decode cX11_cut 49 = .ok (.istore_n 3, 1) := by decide +kernel
theorem dX11_cut_50 : decode cX11_cut 50 = .ok (.iload_n 3, 1) := by decide +kernel
theorem dX11_cut_51 : decode cX11_cut 51 = .ok (.sipush 256, 3) := by decide +kernel
theorem dX11_cut_54 : decode cX11_cut 54 = .ok (.if_icmp .ge 16, 3) := by decide +kernel
theorem dX11_cut_57 : decode cX11_cut 57 = .ok (.aload_n 0, 1) := by decide +kernel
theorem dX11_cut_58 : decode cX11_cut 58 = .ok (.getfield 72, 3) := by decide +kernel
theorem dX11_cut_61 : decode cX11_cut 61 = .ok (.iload_n 3, 1) := by decide +kernel
theorem dX11_cut_62 : decode cX11_cut 62 = .ok (.iconst 0, 1) := by decide +kernel
theorem dX11_cut_63 : decode cX11_cut 63 = .ok (.iastore, 1) := by decide +kernel
theorem dX11_cut_64 : decode cX11_cut 64 = .ok (.iinc 3 1, 3) := by decide +kernel
theorem dX11_cut_67 : decode cX11_cut 67 = .ok (.goto (-17), 3) := by decide +kernel
theorem dX11_cut_70 : decode cX11_cut 70 = .ok (.iconst 0, 1) := by decide +kernel
theorem dX11_cut_71 : decode cX11_cut 71 = .ok (.istore_n 3, 1) := by decide +kernel
theorem dX11_cut_72 : decode cX11_cut 72 = .ok (.aload_n 0, 1) := by decide +kernel
theorem dX11_cut_73 : decode cX11_cut 73 = .ok (.iload_n 1, 1) := by decide +kernel
theorem dX11_cut_74 : decode cX11_cut 74 = .ok (.iload_n 2, 1) := by decide +kernel
theorem dX11_cut_75 : decode cX11_cut 75 = .ok (.invokevirtual 480, 3) := by decide +kernel
theorem dX11_cut_78 : decode cX11_cut 78 = .ok (.ifCond .eq 9, 3) := by decide +kernel
theorem dX11_cut_81 : decode cX11_cut 81 = .ok (.iinc 3 1, 3) := by decide +kernel
theorem dX11_cut_84 : decode cX11_cut 84 = .ok (.goto (-12), 3) := by decide +kernel
theorem dX11_cut_87 : decode cX11_cut 87 = .ok (.iload_n 3, 1) := by decide +kernel
theorem dX11_cut_88 : decode cX11_cut 88 = .ok (.ireturn, 1) := by decide +kernel
theorem dX11_counting_0 : decode cX11_counting 0 = .ok (.iconst 0, 1) := by decide +kernel
theorem dX11_counting_1 : decode cX11_counting 1 = .ok (.istore_n 1, 1) := by decide +kernel
theorem dX11_counting_2 : decode cX11_counting 2 = .ok (.iconst 0, 1) := by decide +kernel
theorem dX11_counting_3 : decode cX11_counting 3 = .ok (.istore_n 2, 1) := by decide +kernel
theorem dX11_counting_4 : decode cX11_counting 4 = .ok (.iconst 0, 1) := by decide +kernel
theorem dX11_counting_5 : decode cX11_counting 5 = .ok (.istore_n 3, 1) := by decide +kernel
theorem dX11_counting_6 : decode cX11_counting 6 = .ok (.iload_n 3, 1) := by decide +kernel
theorem dX11_counting_7 : decode cX11_counting 7 = .ok (.aload_n 0, 1) := by decide +kernel
theorem dX11_counting_8 : decode cX11_counting 8 = .ok (.getfield 7, 3) := by decide +kernel
theorem dX11_counting_11 : decode cX11_counting 11 = .ok (.bipush 87, 2) := by decide +kernel
theorem dX11_counting_13 : decode cX11_counting 13 = .ok (.iaload, 1) := by decide +kernel
theorem dX11_counting_14 : decode cX11_counting 14 = .ok (.if_icmp .ge 75, 3) := by decide +kernel
theorem dX11_counting_17 : decode cX11_counting 17 = .ok (.iconst 1, 1) := by decide +kernel
theorem dX11_counting_18 : decode cX11_counting 18 = .ok (.aload_n 0, 1) := by decide +kernel
theorem dX11_counting_19 : decode cX11_counting 19 = .ok (.iload_n 3, 1) := by decide +kernel
theorem dX11_counting_20 : decode cX11_counting 20 = .ok (.iconst 1, 1) := by decide +kernel
theorem dX11_counting_21 : decode cX11_counting 21 = .ok (.invokevirtual 386, 3) := by decide +kernel
theorem dX11_counting_24 : decode cX11_counting 24 = .ok (.ishl, 1) := by decide +kernel
theorem dX11_counting_25 : decode cX11_counting 25 = .ok (.iconst 1, 1) := by decide +kernel
theorem dX11_counting_26 : decode cX11_counting 26 = .ok (.aload_n 0, 1) := by decide +kernel
theorem dX11_counting_27 : decode cX11_counting 27 = .ok (.iload_n 3, 1) := by decide +kernel
theorem dX11_counting_28 : decode cX11_counting 28 = .ok (.iconst 2, 1) := by decide +kernel
theorem dX11_counting_29 : decode cX11_counting 29 = .ok (.invokevirtual 386, 3) := by decide +kernel
theorem dX11_counting_32 : decode cX11_counting 32 = .ok (.ishl, 1) := by decide +kernel
theorem dX11_counting_33 : decode cX11_counting 33 = .ok (.ior, 1) := by decide +kernel
theorem dX11_counting_34 : decode cX11_counting 34 = .ok (.istore 4, 2) := by decide +kernel
theorem dX11_counting_36 : decode cX11_counting 36 = .ok (.iload_n 2, 1) := by decide +kernel
theorem dX11_counting_37 : decode cX11_counting 37 = .ok (.iload 4, 2) := by decide +kernel
theorem dX11_counting_39 : decode cX11_counting 39 = .ok (.iand, 1) := by decide +kernel
theorem dX11_counting_40 : decode cX11_counting 40 = .ok (.ifCond .ne 43, 3) := by decide +kernel
theorem dX11_counting_43 : decode cX11_counting 43 = .ok (.aload_n 0, 1) := by decide +kernel
theorem dX11_counting_44 : decode cX11_counting 44 = .ok (.aload_n 0, 1) := by decide +kernel
theorem dX11_counting_45 : decode cX11_counting 45 = .ok (.iload_n 3, 1) := by decide +kernel
theorem dX11_counting_46 : decode cX11_counting 46 = .ok (.iconst 1, 1) := by decide +kernel
theorem dX11_counting_47 : decode cX11_counting 47 = .ok (.invokevirtual 386, 3) := by decide +kernel
theorem dX11_counting_50 : decode cX11_counting 50 = .ok (.invokevirtual 351, 3) := by decide +kernel
theorem dX11_counting_53 : decode cX11_counting 53 = .ok (.ifCond .eq 30, 3) := by decide +kernel
theorem dX11_counting_56 : decode cX11_counting 56 = .ok (.aload_n 0, 1) := by decide +kernel
theorem dX11_counting_57 : decode cX11_counting 57 = .ok (.aload_n 0, 1) := by decide +kernel
theorem dX11_counting_58 : decode cX11_counting 58 = .ok (.iload_n 3, 1) := by decide +kernel
theorem dX11_counting_59 : decode cX11_counting 59 = .ok (.iconst 2, 1) := by decide +kernel
theorem dX11_counting_60 : decode cX11_counting 60 = .ok (.invokevirtual 386, 3) := by decide +kernel
theorem dX11_counting_63 : decode cX11_counting 63 = .ok (.invokevirtual 351, 3) := by decide +kernel
theorem dX11_counting_66 : decode cX11_counting 66 = .ok (.ifCond .ne 6, 3) := by decide +kernel
theorem dX11_counting_69 : decode cX11_counting 69 = .ok (.goto 14, 3) := by decide +kernel
theorem dX11_counting_72 : decode cX11_counting 72 = .ok (.iload_n 2, 1) := by decide +kernel
theorem dX11_counting_73 : decode cX11_counting 73 = .ok (.iload 4, 2) := by decide +kernel
theorem dX11_counting_75 : decode cX11_counting 75 = .ok (.ior, 1) := by decide +kernel
theorem dX11_counting_76 : decode cX11_counting 76 = .ok (.istore_n 2, 1) := by decide +kernel
theorem dX11_counting_77 : decode cX11_counting 77 = .ok (.iload_n 1, 1) := by decide +kernel
theorem dX11_counting_78 : decode cX11_counting 78 = .ok (.iconst 1, 1) := by decide +kernel
theorem dX11_counting_79 : decode cX11_counting 79 = .ok (.iload_n 3, 1) := by decide +kernel
theorem dX11_counting_80 : decode cX11_counting 80 = .ok (.ishl, 1) := by decide +kernel
theorem dX11_counting_81 : decode cX11_counting 81 = .ok (.ior, 1) := by decide +kernel
theorem dX11_counting_82 : decode cX11_counting 82 = .ok (.istore_n 1, 1) := by decide +kernel
theorem dX11_counting_83 : decode cX11_counting 83 = .ok (.iinc 3 1, 3) := by decide +kernel
theorem dX11_counting_86 : decode cX11_counting 86 = .ok (.goto (-80), 3) := by decide +kernel
theorem dX11_counting_89 : decode cX11_counting 89 = .ok (.iload_n 1, 1) := by decide +kernel
theorem dX11_counting_90 : decode cX11_counting 90 = .ok (.ireturn, 1) := by decide +kernel
theorem dX11_isAloneIn_0 : decode cX11_isAloneIn 0 = .ok (.iconst 0, 1) := by decide +kernel
theorem dX11_isAloneIn_1 : decode cX11_isAloneIn 1 = .ok (.istore_n 3, 1) := by decide +kernel
theorem dX11_isAloneIn_2 : decode cX11_isAloneIn 2 = .ok (.iload_n 3, 1) := by decide +kernel
theorem dX11_isAloneIn_3 : decode cX11_isAloneIn 3 = .ok (.iload_n 1, 1) := by decide +kernel
theorem dX11_isAloneIn_4 : decode cX11_isAloneIn 4 = .ok (.if_icmp .ge 40, 3) := by decide +kernel
theorem dX11_isAloneIn_7 : decode cX11_isAloneIn 7 = .ok (.aload_n 0, 1) := by decide +kernel
theorem dX11_isAloneIn_8 : decode cX11_isAloneIn 8 = .ok (.getfield 75, 3) := by decide +kernel
theorem dX11_isAloneIn_11 : decode cX11_isAloneIn 11 = .ok (.iload_n 3, 1) := by decide +kernel
theorem dX11_isAloneIn_12 : decode cX11_isAloneIn 12 = .ok (.iaload, 1) := by decide +kernel
theorem dX11_isAloneIn_13 : decode cX11_isAloneIn 13 = .ok (.iload_n 2, 1) := by decide +kernel
theorem dX11_isAloneIn_14 : decode cX11_isAloneIn 14 = .ok (.if_icmp .ne 24, 3) := by decide +kernel
theorem dX11_isAloneIn_17 : decode cX11_isAloneIn 17 = .ok (.aload_n 0, 1) := by decide +kernel
theorem dX11_isAloneIn_18 : decode cX11_isAloneIn 18 = .ok (.iload_n 3, 1) := by decide +kernel
theorem dX11_isAloneIn_19 : decode cX11_isAloneIn 19 = .ok (.iconst 3, 1) := by decide +kernel
theorem dX11_isAloneIn_20 : decode cX11_isAloneIn 20 = .ok (.invokevirtual 386, 3) := by decide +kernel
theorem dX11_isAloneIn_23 : decode cX11_isAloneIn 23 = .ok (.aload_n 0, 1) := by decide +kernel
theorem dX11_isAloneIn_24 : decode cX11_isAloneIn 24 = .ok (.iload_n 1, 1) := by decide +kernel
theorem dX11_isAloneIn_25 : decode cX11_isAloneIn 25 = .ok (.iconst 3, 1) := by decide +kernel
theorem dX11_isAloneIn_26 : decode cX11_isAloneIn 26 = .ok (.invokevirtual 386, 3) := by decide +kernel
theorem dX11_isAloneIn_29 : decode cX11_isAloneIn 29 = .ok (.invokestatic 345, 3) := by decide +kernel
theorem dX11_isAloneIn_32 : decode cX11_isAloneIn 32 = .ok (.iconst 2, 1) := by decide +kernel
theorem dX11_isAloneIn_33 : decode cX11_isAloneIn 33 = .ok (.if_icmp .gt 5, 3) := by decide +kernel
theorem dX11_isAloneIn_36 : decode cX11_isAloneIn 36 = .ok (.iconst 0, 1) := by decide +kernel
theorem dX11_isAloneIn_37 : decode cX11_isAloneIn 37 = .ok (.ireturn, 1) := by decide +kernel
theorem dX11_isAloneIn_38 : decode cX11_isAloneIn 38 = .ok (.iinc 3 1, 3) := by decide +kernel
theorem dX11_isAloneIn_41 : decode cX11_isAloneIn 41 = .ok (.goto (-39), 3) := by decide +kernel
theorem dX11_isAloneIn_44 : decode cX11_isAloneIn 44 = .ok (.iconst 1, 1) := by decide +kernel
theorem dX11_isAloneIn_45 : decode cX11_isAloneIn 45 = .ok (.ireturn, 1) := by decide +kernel
theorem dX11_roundsFrom_0 : decode cX11_roundsFrom 0 = .ok (.iload_n 1, 1) := by decide +kernel
theorem dX11_roundsFrom_1 : decode cX11_roundsFrom 1 = .ok (.aload_n 0, 1) := by decide +kernel
theorem dX11_roundsFrom_2 : decode cX11_roundsFrom 2 = .ok (.getfield 7, 3) := by decide +kernel
theorem dX11_roundsFrom_5 : decode cX11_roundsFrom 5 = .ok (.bipush 87, 2) := by decide +kernel
theorem dX11_roundsFrom_7 : decode cX11_roundsFrom 7 = .ok (.iaload, 1) := by decide +kernel
theorem dX11_roundsFrom_8 : decode cX11_roundsFrom 8 = .ok (.if_icmp .ne 5, 3) := by decide +kernel
theorem dX11_roundsFrom_11 : decode cX11_roundsFrom 11 = .ok (.iconst 1, 1) := by decide +kernel
theorem dX11_roundsFrom_12 : decode cX11_roundsFrom 12 = .ok (.ireturn, 1) := by decide +kernel
theorem dX11_roundsFrom_13 : decode cX11_roundsFrom 13 = .ok (.aload_n 0, 1) := by decide +kernel
theorem dX11_roundsFrom_14 : decode cX11_roundsFrom 14 = .ok (.getfield 75, 3) := by decide +kernel
theorem dX11_roundsFrom_17 : decode cX11_roundsFrom 17 = .ok (.iload_n 1, 1) := by decide +kernel
theorem dX11_roundsFrom_18 : decode cX11_roundsFrom 18 = .ok (.iconst (-1), 1) := by decide +kernel
theorem dX11_roundsFrom_19 : decode cX11_roundsFrom 19 = .ok (.iastore, 1) := by decide +kernel
theorem dX11_roundsFrom_20 : decode cX11_roundsFrom 20 = .ok (.iload_n 3, 1) := by decide +kernel
theorem dX11_roundsFrom_21 : decode cX11_roundsFrom 21 = .ok (.iload_n 1, 1) := by decide +kernel
theorem dX11_roundsFrom_22 : decode cX11_roundsFrom 22 = .ok (.ishr, 1) := by decide +kernel
theorem dX11_roundsFrom_23 : decode cX11_roundsFrom 23 = .ok (.iconst 1, 1) := by decide +kernel
theorem dX11_roundsFrom_24 : decode cX11_roundsFrom 24 = .ok (.iand, 1) := by decide +kernel
theorem dX11_roundsFrom_25 : decode cX11_roundsFrom 25 = .ok (.ifCond .ne 13, 3) := by decide +kernel
theorem dX11_roundsFrom_28 : decode cX11_roundsFrom 28 = .ok (.aload_n 0, 1) := by decide +kernel
theorem dX11_roundsFrom_29 : decode cX11_roundsFrom 29 = .ok (.iload_n 1, 1) := by decide +kernel
theorem dX11_roundsFrom_30 : decode cX11_roundsFrom 30 = .ok (.iconst 1, 1) := by decide +kernel
theorem dX11_roundsFrom_31 : decode cX11_roundsFrom 31 = .ok (.iadd, 1) := by decide +kernel
theorem dX11_roundsFrom_32 : decode cX11_roundsFrom 32 = .ok (.iload_n 2, 1) := by decide +kernel
theorem dX11_roundsFrom_33 : decode cX11_roundsFrom 33 = .ok (.iload_n 3, 1) := by decide +kernel
theorem dX11_roundsFrom_34 : decode cX11_roundsFrom 34 = .ok (.invokevirtual 483, 3) := by decide +kernel
theorem dX11_roundsFrom_37 : decode cX11_roundsFrom 37 = .ok (.ireturn, 1) := by decide +kernel
theorem dX11_roundsFrom_38 : decode cX11_roundsFrom 38 = .ok (.iconst 0, 1) := by decide +kernel
theorem dX11_roundsFrom_39 : decode cX11_roundsFrom 39 = .ok (.istore 4, 2) := by decide +kernel
theorem dX11_roundsFrom_41 : decode cX11_roundsFrom 41 = .ok (.iload 4, 2) := by decide +kernel
theorem dX11_roundsFrom_43 : decode cX11_roundsFrom 43 = .ok (.iload_n 2, 1) := by decide +kernel
theorem dX11_roundsFrom_44 : decode cX11_roundsFrom 44 = .ok (.if_icmp .ge 51, 3) := by decide +kernel
theorem dX11_roundsFrom_47 : decode cX11_roundsFrom 47 = .ok (.aload_n 0, 1) := by decide +kernel
theorem dX11_roundsFrom_48 : decode cX11_roundsFrom 48 = .ok (.iload_n 1, 1) := by decide +kernel
theorem dX11_roundsFrom_49 : decode cX11_roundsFrom 49 = .ok (.iload 4, 2) := by decide +kernel
theorem dX11_roundsFrom_51 : decode cX11_roundsFrom 51 = .ok (.invokevirtual 486, 3) := by decide +kernel
theorem dX11_roundsFrom_54 : decode cX11_roundsFrom 54 = .ok (.ifCond .ne 6, 3) := by decide +kernel
theorem dX11_roundsFrom_57 : decode cX11_roundsFrom 57 = .ok (.goto 32, 3) := by decide +kernel
theorem dX11_roundsFrom_60 : decode cX11_roundsFrom 60 = .ok (.aload_n 0, 1) := by decide +kernel
theorem dX11_roundsFrom_61 : decode cX11_roundsFrom 61 = .ok (.getfield 75, 3) := by decide +kernel
theorem dX11_roundsFrom_64 : decode cX11_roundsFrom 64 = .ok (.iload_n 1, 1) := by decide +kernel
theorem dX11_roundsFrom_65 : decode cX11_roundsFrom 65 = .ok (.iload 4, 2) := by decide +kernel
theorem dX11_roundsFrom_67 : decode cX11_roundsFrom 67 = .ok (.iastore, 1) := by decide +kernel
theorem dX11_roundsFrom_68 : decode cX11_roundsFrom 68 = .ok (.aload_n 0, 1) := by decide +kernel
theorem dX11_roundsFrom_69 : decode cX11_roundsFrom 69 = .ok (.iload_n 1, 1) := by decide +kernel
theorem dX11_roundsFrom_70 : decode cX11_roundsFrom 70 = .ok (.iconst 1, 1) := by decide +kernel
theorem dX11_roundsFrom_71 : decode cX11_roundsFrom 71 = .ok (.iadd, 1) := by decide +kernel
theorem dX11_roundsFrom_72 : decode cX11_roundsFrom 72 = .ok (.iload_n 2, 1) := by decide +kernel
theorem dX11_roundsFrom_73 : decode cX11_roundsFrom 73 = .ok (.iload_n 3, 1) := by decide +kernel
theorem dX11_roundsFrom_74 : decode cX11_roundsFrom 74 = .ok (.invokevirtual 483, 3) := by decide +kernel
theorem dX11_roundsFrom_77 : decode cX11_roundsFrom 77 = .ok (.ifCond .eq 5, 3) := by decide +kernel
theorem dX11_roundsFrom_80 : decode cX11_roundsFrom 80 = .ok (.iconst 1, 1) := by decide +kernel
theorem dX11_roundsFrom_81 : decode cX11_roundsFrom 81 = .ok (.ireturn, 1) := by decide +kernel
theorem dX11_roundsFrom_82 : decode cX11_roundsFrom 82 = .ok (.aload_n 0, 1) := by decide +kernel
theorem dX11_roundsFrom_83 : decode cX11_roundsFrom 83 = .ok (.getfield 75, 3) := by decide +kernel
theorem dX11_roundsFrom_86 : decode cX11_roundsFrom 86 = .ok (.iload_n 1, 1) := by decide +kernel
theorem dX11_roundsFrom_87 : decode cX11_roundsFrom 87 = .ok (.iconst (-1), 1) := by decide +kernel
theorem dX11_roundsFrom_88 : decode cX11_roundsFrom 88 = .ok (.iastore, 1) := by decide +kernel
theorem dX11_roundsFrom_89 : decode cX11_roundsFrom 89 = .ok (.iinc 4 1, 3) := by decide +kernel
theorem dX11_roundsFrom_92 : decode cX11_roundsFrom 92 = .ok (.goto (-51), 3) := by decide +kernel
theorem dX11_roundsFrom_95 : decode cX11_roundsFrom 95 = .ok (.iconst 0, 1) := by decide +kernel
theorem dX11_roundsFrom_96 : decode cX11_roundsFrom 96 = .ok (.ireturn, 1) := by decide +kernel
theorem dX11_rounds_0 : decode cX11_rounds 0 = .ok (.iload_n 1, 1) := by decide +kernel
theorem dX11_rounds_1 : decode cX11_rounds 1 = .ok (.ifCond .eq 24, 3) := by decide +kernel
theorem dX11_rounds_4 : decode cX11_rounds 4 = .ok (.iload_n 1, 1) := by decide +kernel
theorem dX11_rounds_5 : decode cX11_rounds 5 = .ok (.bipush 10, 2) := by decide +kernel
theorem dX11_rounds_7 : decode cX11_rounds 7 = .ok (.bipush 9, 2) := by decide +kernel
theorem dX11_rounds_9 : decode cX11_rounds 9 = .ok (.aload_n 0, 1) := by decide +kernel
theorem dX11_rounds_10 : decode cX11_rounds 10 = .ok (.getfield 7, 3) := by decide +kernel
theorem dX11_rounds_13 : decode cX11_rounds 13 = .ok (.bipush 87, 2) := by decide +kernel
theorem dX11_rounds_15 : decode cX11_rounds 15 = .ok (.iaload, 1) := by decide +kernel
theorem dX11_rounds_16 : decode cX11_rounds 16 = .ok (.iadd, 1) := by decide +kernel
theorem dX11_rounds_17 : decode cX11_rounds 17 = .ok (.invokestatic 89, 3) := by decide +kernel
theorem dX11_rounds_20 : decode cX11_rounds 20 = .ok (.ifCond .ne 5, 3) := by decide +kernel
theorem dX11_rounds_23 : decode cX11_rounds 23 = .ok (.iconst (-1), 1) := by decide +kernel
theorem dX11_rounds_24 : decode cX11_rounds 24 = .ok (.ireturn, 1) := by decide +kernel
theorem dX11_rounds_25 : decode cX11_rounds 25 = .ok (.aload_n 0, 1) := by decide +kernel
theorem dX11_rounds_26 : decode cX11_rounds 26 = .ok (.invokevirtual 489, 3) := by decide +kernel
theorem dX11_rounds_29 : decode cX11_rounds 29 = .ok (.istore_n 2, 1) := by decide +kernel
theorem dX11_rounds_30 : decode cX11_rounds 30 = .ok (.iconst 0, 1) := by decide +kernel
theorem dX11_rounds_31 : decode cX11_rounds 31 = .ok (.istore_n 3, 1) := by decide +kernel
theorem dX11_rounds_32 : decode cX11_rounds 32 = .ok (.aload_n 0, 1) := by decide +kernel
theorem dX11_rounds_33 : decode cX11_rounds 33 = .ok (.iconst 0, 1) := by decide +kernel
theorem dX11_rounds_34 : decode cX11_rounds 34 = .ok (.iload_n 3, 1) := by decide +kernel
theorem dX11_rounds_35 : decode cX11_rounds 35 = .ok (.iload_n 2, 1) := by decide +kernel
theorem dX11_rounds_36 : decode cX11_rounds 36 = .ok (.invokevirtual 483, 3) := by decide +kernel
theorem dX11_rounds_39 : decode cX11_rounds 39 = .ok (.ifCond .ne 9, 3) := by decide +kernel
theorem dX11_rounds_42 : decode cX11_rounds 42 = .ok (.iinc 3 1, 3) := by decide +kernel
theorem dX11_rounds_45 : decode cX11_rounds 45 = .ok (.goto (-13), 3) := by decide +kernel
theorem dX11_rounds_48 : decode cX11_rounds 48 = .ok (.iload_n 1, 1) := by decide +kernel
theorem dX11_rounds_49 : decode cX11_rounds 49 = .ok (.ifCond .ne 7, 3) := by decide +kernel
theorem dX11_rounds_52 : decode cX11_rounds 52 = .ok (.iload_n 3, 1) := by decide +kernel
theorem dX11_rounds_53 : decode cX11_rounds 53 = .ok (.goto 12, 3) := by decide +kernel
theorem dX11_rounds_56 : decode cX11_rounds 56 = .ok (.aload_n 0, 1) := by decide +kernel
theorem dX11_rounds_57 : decode cX11_rounds 57 = .ok (.getfield 75, 3) := by decide +kernel
theorem dX11_rounds_60 : decode cX11_rounds 60 = .ok (.iload_n 1, 1) := by decide +kernel
theorem dX11_rounds_61 : decode cX11_rounds 61 = .ok (.bipush 10, 2) := by decide +kernel
theorem dX11_rounds_63 : decode cX11_rounds 63 = .ok (.isub, 1) := by decide +kernel
theorem dX11_rounds_64 : decode cX11_rounds 64 = .ok (.iaload, 1) := by decide +kernel
theorem dX11_rounds_65 : decode cX11_rounds 65 = .ok (.ireturn, 1) := by decide +kernel
theorem dX11_comes_0 : decode cX11_comes 0 = .ok (.aload_n 0, 1) := by decide +kernel
theorem dX11_comes_1 : decode cX11_comes 1 = .ok (.iload_n 1, 1) := by decide +kernel
theorem dX11_comes_2 : decode cX11_comes 2 = .ok (.iload_n 2, 1) := by decide +kernel
theorem dX11_comes_3 : decode cX11_comes 3 = .ok (.invokevirtual 278, 3) := by decide +kernel
theorem dX11_comes_6 : decode cX11_comes 6 = .ok (.ifCond .ne 5, 3) := by decide +kernel
theorem dX11_comes_9 : decode cX11_comes 9 = .ok (.iconst (-1), 1) := by decide +kernel
theorem dX11_comes_10 : decode cX11_comes 10 = .ok (.ireturn, 1) := by decide +kernel
theorem dX11_comes_11 : decode cX11_comes 11 = .ok (.aload_n 0, 1) := by decide +kernel
theorem dX11_comes_12 : decode cX11_comes 12 = .ok (.getfield 7, 3) := by decide +kernel
theorem dX11_comes_15 : decode cX11_comes 15 = .ok (.bipush 103, 2) := by decide +kernel
theorem dX11_comes_17 : decode cX11_comes 17 = .ok (.iload_n 1, 1) := by decide +kernel
theorem dX11_comes_18 : decode cX11_comes 18 = .ok (.iadd, 1) := by decide +kernel
theorem dX11_comes_19 : decode cX11_comes 19 = .ok (.iaload, 1) := by decide +kernel
theorem dX11_comes_20 : decode cX11_comes 20 = .ok (.istore_n 3, 1) := by decide +kernel
theorem dX11_comes_21 : decode cX11_comes 21 = .ok (.aload_n 0, 1) := by decide +kernel
theorem dX11_comes_22 : decode cX11_comes 22 = .ok (.getfield 7, 3) := by decide +kernel
theorem dX11_comes_25 : decode cX11_comes 25 = .ok (.bipush 103, 2) := by decide +kernel
theorem dX11_comes_27 : decode cX11_comes 27 = .ok (.iload_n 2, 1) := by decide +kernel
theorem dX11_comes_28 : decode cX11_comes 28 = .ok (.iadd, 1) := by decide +kernel
theorem dX11_comes_29 : decode cX11_comes 29 = .ok (.iaload, 1) := by decide +kernel
theorem dX11_comes_30 : decode cX11_comes 30 = .ok (.istore 4, 2) := by decide +kernel
theorem dX11_comes_32 : decode cX11_comes 32 = .ok (.iconst (-1), 1) := by decide +kernel
theorem dX11_comes_33 : decode cX11_comes 33 = .ok (.istore 5, 2) := by decide +kernel
theorem dX11_comes_35 : decode cX11_comes 35 = .ok (.iconst 0, 1) := by decide +kernel
theorem dX11_comes_36 : decode cX11_comes 36 = .ok (.istore 6, 2) := by decide +kernel
theorem dX11_comes_38 : decode cX11_comes 38 = .ok (.iload 6, 2) := by decide +kernel
theorem dX11_comes_40 : decode cX11_comes 40 = .ok (.bipush 20, 2) := by decide +kernel
theorem dX11_comes_42 : decode cX11_comes 42 = .ok (.if_icmp .gt 119, 3) := by decide +kernel
theorem dX11_comes_45 : decode cX11_comes 45 = .ok (.iload 5, 2) := by decide +kernel
theorem dX11_comes_47 : decode cX11_comes 47 = .ok (.iconst (-1), 1) := by decide +kernel
theorem dX11_comes_48 : decode cX11_comes 48 = .ok (.if_icmp .ne 113, 3) := by decide +kernel
theorem dX11_comes_51 : decode cX11_comes 51 = .ok (.aload_n 0, 1) := by decide +kernel
theorem dX11_comes_52 : decode cX11_comes 52 = .ok (.iload_n 1, 1) := by decide +kernel
theorem dX11_comes_53 : decode cX11_comes 53 = .ok (.iload_n 2, 1) := by decide +kernel
theorem dX11_comes_54 : decode cX11_comes 54 = .ok (.invokevirtual 342, 3) := by decide +kernel
theorem dX11_comes_57 : decode cX11_comes 57 = .ok (.bipush 6, 2) := by decide +kernel
theorem dX11_comes_59 : decode cX11_comes 59 = .ok (.if_icmp .lt 8, 3) := by decide +kernel
theorem dX11_comes_62 : decode cX11_comes 62 = .ok (.iload 6, 2) := by decide +kernel
theorem dX11_comes_64 : decode cX11_comes 64 = .ok (.goto 4, 3) := by decide +kernel
theorem dX11_comes_67 : decode cX11_comes 67 = .ok (.iconst (-1), 1) := by decide +kernel
theorem dX11_comes_68 : decode cX11_comes 68 = .ok (.istore 5, 2) := by decide +kernel
theorem dX11_comes_70 : decode cX11_comes 70 = .ok (.aload_n 0, 1) := by decide +kernel
theorem dX11_comes_71 : decode cX11_comes 71 = .ok (.getfield 7, 3) := by decide +kernel
theorem dX11_comes_74 : decode cX11_comes 74 = .ok (.bipush 103, 2) := by decide +kernel
theorem dX11_comes_76 : decode cX11_comes 76 = .ok (.iload_n 1, 1) := by decide +kernel
theorem dX11_comes_77 : decode cX11_comes 77 = .ok (.iadd, 1) := by decide +kernel
theorem dX11_comes_78 : decode cX11_comes 78 = .ok (.iaload, 1) := by decide +kernel
theorem dX11_comes_79 : decode cX11_comes 79 = .ok (.aload_n 0, 1) := by decide +kernel
theorem dX11_comes_80 : decode cX11_comes 80 = .ok (.getfield 7, 3) := by decide +kernel
theorem dX11_comes_83 : decode cX11_comes 83 = .ok (.bipush 103, 2) := by decide +kernel
theorem dX11_comes_85 : decode cX11_comes 85 = .ok (.iload_n 2, 1) := by decide +kernel
theorem dX11_comes_86 : decode cX11_comes 86 = .ok (.iadd, 1) := by decide +kernel
theorem dX11_comes_87 : decode cX11_comes 87 = .ok (.iaload, 1) := by decide +kernel
theorem dX11_comes_88 : decode cX11_comes 88 = .ok (.isub, 1) := by decide +kernel
theorem dX11_comes_89 : decode cX11_comes 89 = .ok (.invokestatic 100, 3) := by decide +kernel
theorem dX11_comes_92 : decode cX11_comes 92 = .ok (.iconst 2, 1) := by decide +kernel
theorem dX11_comes_93 : decode cX11_comes 93 = .ok (.if_icmp .ge 6, 3) := by decide +kernel
theorem dX11_comes_96 : decode cX11_comes 96 = .ok (.goto 59, 3) := by decide +kernel
theorem dX11_comes_99 : decode cX11_comes 99 = .ok (.aload_n 0, 1) := by decide +kernel
theorem dX11_comes_100 : decode cX11_comes 100 = .ok (.getfield 7, 3) := by decide +kernel
theorem dX11_comes_103 : decode cX11_comes 103 = .ok (.bipush 103, 2) := by decide +kernel
theorem dX11_comes_105 : decode cX11_comes 105 = .ok (.iload_n 1, 1) := by decide +kernel
theorem dX11_comes_106 : decode cX11_comes 106 = .ok (.iadd, 1) := by decide +kernel
theorem dX11_comes_107 : decode cX11_comes 107 = .ok (.iaload, 1) := by decide +kernel
theorem dX11_comes_108 : decode cX11_comes 108 = .ok (.aload_n 0, 1) := by decide +kernel
theorem dX11_comes_109 : decode cX11_comes 109 = .ok (.getfield 7, 3) := by decide +kernel
theorem dX11_comes_112 : decode cX11_comes 112 = .ok (.bipush 103, 2) := by decide +kernel
theorem dX11_comes_114 : decode cX11_comes 114 = .ok (.iload_n 2, 1) := by decide +kernel
theorem dX11_comes_115 : decode cX11_comes 115 = .ok (.iadd, 1) := by decide +kernel
theorem dX11_comes_116 : decode cX11_comes 116 = .ok (.iaload, 1) := by decide +kernel
theorem dX11_comes_117 : decode cX11_comes 117 = .ok (.if_icmp .le 7, 3) := by decide +kernel
theorem dX11_comes_120 : decode cX11_comes 120 = .ok (.iconst 1, 1) := by decide +kernel
theorem dX11_comes_121 : decode cX11_comes 121 = .ok (.goto 4, 3) := by decide +kernel
theorem dX11_comes_124 : decode cX11_comes 124 = .ok (.iconst (-1), 1) := by decide +kernel
theorem dX11_comes_125 : decode cX11_comes 125 = .ok (.istore 7, 2) := by decide +kernel
theorem dX11_comes_127 : decode cX11_comes 127 = .ok (.aload_n 0, 1) := by decide +kernel
theorem dX11_comes_128 : decode cX11_comes 128 = .ok (.getfield 7, 3) := by decide +kernel
theorem dX11_comes_131 : decode cX11_comes 131 = .ok (.bipush 103, 2) := by decide +kernel
theorem dX11_comes_133 : decode cX11_comes 133 = .ok (.iload_n 1, 1) := by decide +kernel
theorem dX11_comes_134 : decode cX11_comes 134 = .ok (.iadd, 1) := by decide +kernel
theorem dX11_comes_135 : decode cX11_comes 135 = .ok (.dup2, 1) := by decide +kernel
theorem dX11_comes_136 : decode cX11_comes 136 = .ok (.iaload, 1) := by decide +kernel
theorem dX11_comes_137 : decode cX11_comes 137 = .ok (.iload 7, 2) := by decide +kernel
theorem dX11_comes_139 : decode cX11_comes 139 = .ok (.isub, 1) := by decide +kernel
theorem dX11_comes_140 : decode cX11_comes 140 = .ok (.iastore, 1) := by decide +kernel
theorem dX11_comes_141 : decode cX11_comes 141 = .ok (.aload_n 0, 1) := by decide +kernel
theorem dX11_comes_142 : decode cX11_comes 142 = .ok (.getfield 7, 3) := by decide +kernel
theorem dX11_comes_145 : decode cX11_comes 145 = .ok (.bipush 103, 2) := by decide +kernel
theorem dX11_comes_147 : decode cX11_comes 147 = .ok (.iload_n 2, 1) := by decide +kernel
theorem dX11_comes_148 : decode cX11_comes 148 = .ok (.iadd, 1) := by decide +kernel
theorem dX11_comes_149 : decode cX11_comes 149 = .ok (.dup2, 1) := by decide +kernel
theorem dX11_comes_150 : decode cX11_comes 150 = .ok (.iaload, 1) := by decide +kernel
theorem dX11_comes_151 : decode cX11_comes 151 = .ok (.iload 7, 2) := by decide +kernel
theorem dX11_comes_153 : decode cX11_comes 153 = .ok (.iadd, 1) := by decide +kernel
theorem dX11_comes_154 : decode cX11_comes 154 = .ok (.iastore, 1) := by decide +kernel
theorem dX11_comes_155 : decode cX11_comes 155 = .ok (.iinc 6 1, 3) := by decide +kernel
theorem dX11_comes_158 : decode cX11_comes 158 = .ok (.goto (-120), 3) := by decide +kernel
theorem dX11_comes_161 : decode cX11_comes 161 = .ok (.aload_n 0, 1) := by decide +kernel
theorem dX11_comes_162 : decode cX11_comes 162 = .ok (.getfield 7, 3) := by decide +kernel
theorem dX11_comes_165 : decode cX11_comes 165 = .ok (.bipush 103, 2) := by decide +kernel
theorem dX11_comes_167 : decode cX11_comes 167 = .ok (.iload_n 1, 1) := by decide +kernel
theorem dX11_comes_168 : decode cX11_comes 168 = .ok (.iadd, 1) := by decide +kernel
theorem dX11_comes_169 : decode cX11_comes 169 = .ok (.iload_n 3, 1) := by decide +kernel
theorem dX11_comes_170 : decode cX11_comes 170 = .ok (.iastore, 1) := by decide +kernel
theorem dX11_comes_171 : decode cX11_comes 171 = .ok (.aload_n 0, 1) := by decide +kernel
theorem dX11_comes_172 : decode cX11_comes 172 = .ok (.getfield 7, 3) := by decide +kernel
theorem dX11_comes_175 : decode cX11_comes 175 = .ok (.bipush 103, 2) := by decide +kernel
theorem dX11_comes_177 : decode cX11_comes 177 = .ok (.iload_n 2, 1) := by decide +kernel
theorem dX11_comes_178 : decode cX11_comes 178 = .ok (.iadd, 1) := by decide +kernel
theorem dX11_comes_179 : decode cX11_comes 179 = .ok (.iload 4, 2) := by decide +kernel
theorem dX11_comes_181 : decode cX11_comes 181 = .ok (.iastore, 1) := by decide +kernel
theorem dX11_comes_182 : decode cX11_comes 182 = .ok (.iload 5, 2) := by decide +kernel
theorem dX11_comes_184 : decode cX11_comes 184 = .ok (.ireturn, 1) := by decide +kernel
theorem dX11_asks_0 : decode cX11_asks 0 = .ok (.aload_n 0, 1) := by decide +kernel
theorem dX11_asks_1 : decode cX11_asks 1 = .ok (.getfield 7, 3) := by decide +kernel
theorem dX11_asks_4 : decode cX11_asks 4 = .ok (.iconst 1, 1) := by decide +kernel
theorem dX11_asks_5 : decode cX11_asks 5 = .ok (.iaload, 1) := by decide +kernel
theorem dX11_asks_6 : decode cX11_asks 6 = .ok (.bipush 10, 2) := by decide +kernel
theorem dX11_asks_8 : decode cX11_asks 8 = .ok (.idiv, 1) := by decide +kernel
theorem dX11_asks_9 : decode cX11_asks 9 = .ok (.istore_n 1, 1) := by decide +kernel
theorem dX11_asks_10 : decode cX11_asks 10 = .ok (.iconst 0, 1) := by decide +kernel
theorem dX11_asks_11 : decode cX11_asks 11 = .ok (.istore_n 2, 1) := by decide +kernel
theorem dX11_asks_12 : decode cX11_asks 12 = .ok (.iconst 0, 1) := by decide +kernel
theorem dX11_asks_13 : decode cX11_asks 13 = .ok (.istore_n 3, 1) := by decide +kernel
theorem dX11_asks_14 : decode cX11_asks 14 = .ok (.iload_n 3, 1) := by decide +kernel
theorem dX11_asks_15 : decode cX11_asks 15 = .ok (.aload_n 0, 1) := by decide +kernel
theorem dX11_asks_16 : decode cX11_asks 16 = .ok (.getfield 7, 3) := by decide +kernel
theorem dX11_asks_19 : decode cX11_asks 19 = .ok (.bipush 89, 2) := by decide +kernel
theorem dX11_asks_21 : decode cX11_asks 21 = .ok (.iaload, 1) := by decide +kernel
theorem dX11_asks_22 : decode cX11_asks 22 = .ok (.if_icmp .ge 52, 3) := by decide +kernel
theorem dX11_asks_25 : decode cX11_asks 25 = .ok (.iload_n 2, 1) := by decide +kernel
theorem dX11_asks_26 : decode cX11_asks 26 = .ok (.aload_n 0, 1) := by decide +kernel
theorem dX11_asks_27 : decode cX11_asks 27 = .ok (.getfield 7, 3) := by decide +kernel
theorem dX11_asks_30 : decode cX11_asks 30 = .ok (.iconst 4, 1) := by decide +kernel
theorem dX11_asks_31 : decode cX11_asks 31 = .ok (.aload_n 0, 1) := by decide +kernel
theorem dX11_asks_32 : decode cX11_asks 32 = .ok (.getfield 7, 3) := by decide +kernel
theorem dX11_asks_35 : decode cX11_asks 35 = .ok (.sipush 239, 3) := by decide +kernel
theorem dX11_asks_38 : decode cX11_asks 38 = .ok (.iconst 3, 1) := by decide +kernel
theorem dX11_asks_39 : decode cX11_asks 39 = .ok (.iload_n 3, 1) := by decide +kernel
theorem dX11_asks_40 : decode cX11_asks 40 = .ok (.imul, 1) := by decide +kernel
theorem dX11_asks_41 : decode cX11_asks 41 = .ok (.iadd, 1) := by decide +kernel
theorem dX11_asks_42 : decode cX11_asks 42 = .ok (.iaload, 1) := by decide +kernel
theorem dX11_asks_43 : decode cX11_asks 43 = .ok (.iadd, 1) := by decide +kernel
theorem dX11_asks_44 : decode cX11_asks 44 = .ok (.iaload, 1) := by decide +kernel
theorem dX11_asks_45 : decode cX11_asks 45 = .ok (.ifCond .ne 20, 3) := by decide +kernel
theorem dX11_asks_48 : decode cX11_asks 48 = .ok (.aload_n 0, 1) := by decide +kernel
theorem dX11_asks_49 : decode cX11_asks 49 = .ok (.getfield 7, 3) := by decide +kernel
theorem dX11_asks_52 : decode cX11_asks 52 = .ok (.sipush 239, 3) := by decide +kernel
theorem dX11_asks_55 : decode cX11_asks 55 = .ok (.iconst 3, 1) := by decide +kernel
theorem dX11_asks_56 : decode cX11_asks 56 = .ok (.iload_n 3, 1) := by decide +kernel
theorem dX11_asks_57 : decode cX11_asks 57 = .ok (.imul, 1) := by decide +kernel
theorem dX11_asks_58 : decode cX11_asks 58 = .ok (.iadd, 1) := by decide +kernel
theorem dX11_asks_59 : decode cX11_asks 59 = .ok (.iconst 2, 1) := by decide +kernel
theorem dX11_asks_60 : decode cX11_asks 60 = .ok (.iadd, 1) := by decide +kernel
theorem dX11_asks_61 : decode cX11_asks 61 = .ok (.iaload, 1) := by decide +kernel
theorem dX11_asks_62 : decode cX11_asks 62 = .ok (.goto 4, 3) := by decide +kernel
theorem dX11_asks_65 : decode cX11_asks 65 = .ok (.iconst 0, 1) := by decide +kernel
theorem dX11_asks_66 : decode cX11_asks 66 = .ok (.iadd, 1) := by decide +kernel
theorem dX11_asks_67 : decode cX11_asks 67 = .ok (.istore_n 2, 1) := by decide +kernel
theorem dX11_asks_68 : decode cX11_asks 68 = .ok (.iinc 3 1, 3) := by decide +kernel
theorem dX11_asks_71 : decode cX11_asks 71 = .ok (.goto (-57), 3) := by decide +kernel
theorem dX11_asks_74 : decode cX11_asks 74 = .ok (.iload_n 1, 1) := by decide +kernel
theorem dX11_asks_75 : decode cX11_asks 75 = .ok (.iload_n 2, 1) := by decide +kernel
theorem dX11_asks_76 : decode cX11_asks 76 = .ok (.if_icmp .le 7, 3) := by decide +kernel
theorem dX11_asks_79 : decode cX11_asks 79 = .ok (.iconst (-1), 1) := by decide +kernel
theorem dX11_asks_80 : decode cX11_asks 80 = .ok (.goto 8, 3) := by decide +kernel
theorem dX11_asks_83 : decode cX11_asks 83 = .ok (.iload_n 1, 1) := by decide +kernel
theorem dX11_asks_84 : decode cX11_asks 84 = .ok (.iload_n 2, 1) := by decide +kernel
theorem dX11_asks_85 : decode cX11_asks 85 = .ok (.iadd, 1) := by decide +kernel
theorem dX11_asks_86 : decode cX11_asks 86 = .ok (.iconst 2, 1) := by decide +kernel
theorem dX11_asks_87 : decode cX11_asks 87 = .ok (.idiv, 1) := by decide +kernel
theorem dX11_asks_88 : decode cX11_asks 88 = .ok (.ireturn, 1) := by decide +kernel
theorem dX11_tribe_0 : decode cX11_tribe 0 = .ok (.aload_n 0, 1) := by decide +kernel
theorem dX11_tribe_1 : decode cX11_tribe 1 = .ok (.iload_n 1, 1) := by decide +kernel
theorem dX11_tribe_2 : decode cX11_tribe 2 = .ok (.invokevirtual 97, 3) := by decide +kernel
theorem dX11_tribe_5 : decode cX11_tribe 5 = .ok (.ifCond .ne 5, 3) := by decide +kernel
theorem dX11_tribe_8 : decode cX11_tribe 8 = .ok (.iconst (-1), 1) := by decide +kernel
theorem dX11_tribe_9 : decode cX11_tribe 9 = .ok (.ireturn, 1) := by decide +kernel
theorem dX11_tribe_10 : decode cX11_tribe 10 = .ok (.iconst 1, 1) := by decide +kernel
theorem dX11_tribe_11 : decode cX11_tribe 11 = .ok (.iload_n 1, 1) := by decide +kernel
theorem dX11_tribe_12 : decode cX11_tribe 12 = .ok (.ishl, 1) := by decide +kernel
theorem dX11_tribe_13 : decode cX11_tribe 13 = .ok (.istore_n 2, 1) := by decide +kernel
theorem dX11_tribe_14 : decode cX11_tribe 14 = .ok (.iconst 0, 1) := by decide +kernel
theorem dX11_tribe_15 : decode cX11_tribe 15 = .ok (.istore_n 3, 1) := by decide +kernel
theorem dX11_tribe_16 : decode cX11_tribe 16 = .ok (.iload_n 3, 1) := by decide +kernel
theorem dX11_tribe_17 : decode cX11_tribe 17 = .ok (.bipush 12, 2) := by decide +kernel
theorem dX11_tribe_19 : decode cX11_tribe 19 = .ok (.if_icmp .ge 58, 3) := by decide +kernel
theorem dX11_tribe_22 : decode cX11_tribe 22 = .ok (.iconst 0, 1) := by decide +kernel
theorem dX11_tribe_23 : decode cX11_tribe 23 = .ok (.istore 4, 2) := by decide +kernel
theorem dX11_tribe_25 : decode cX11_tribe 25 = .ok (.iload 4, 2) := by decide +kernel
theorem dX11_tribe_27 : decode cX11_tribe 27 = .ok (.aload_n 0, 1) := by decide +kernel
theorem dX11_tribe_28 : decode cX11_tribe 28 = .ok (.getfield 7, 3) := by decide +kernel
theorem dX11_tribe_31 : decode cX11_tribe 31 = .ok (.bipush 85, 2) := by decide +kernel
theorem dX11_tribe_33 : decode cX11_tribe 33 = .ok (.iaload, 1) := by decide +kernel
theorem dX11_tribe_34 : decode cX11_tribe 34 = .ok (.if_icmp .ge 37, 3) := by decide +kernel
theorem dX11_tribe_37 : decode cX11_tribe 37 = .ok (.iload_n 2, 1) := by decide +kernel
theorem dX11_tribe_38 : decode cX11_tribe 38 = .ok (.iload_n 2, 1) := by decide +kernel
theorem dX11_tribe_39 : decode cX11_tribe 39 = .ok (.iload 4, 2) := by decide +kernel
theorem dX11_tribe_41 : decode cX11_tribe 41 = .ok (.ishr, 1) := by decide +kernel
theorem dX11_tribe_42 : decode cX11_tribe 42 = .ok (.iconst 1, 1) := by decide +kernel
theorem dX11_tribe_43 : decode cX11_tribe 43 = .ok (.iand, 1) := by decide +kernel
theorem dX11_tribe_44 : decode cX11_tribe 44 = .ok (.iconst 1, 1) := by decide +kernel
theorem dX11_tribe_45 : decode cX11_tribe 45 = .ok (.if_icmp .ne 17, 3) := by decide +kernel
theorem dX11_tribe_48 : decode cX11_tribe 48 = .ok (.aload_n 0, 1) := by decide +kernel
theorem dX11_tribe_49 : decode cX11_tribe 49 = .ok (.getfield 7, 3) := by decide +kernel
theorem dX11_tribe_52 : decode cX11_tribe 52 = .ok (.sipush 139, 3) := by decide +kernel
theorem dX11_tribe_55 : decode cX11_tribe 55 = .ok (.iload 4, 2) := by decide +kernel
theorem dX11_tribe_57 : decode cX11_tribe 57 = .ok (.iadd, 1) := by decide +kernel
theorem dX11_tribe_58 : decode cX11_tribe 58 = .ok (.iaload, 1) := by decide +kernel
theorem dX11_tribe_59 : decode cX11_tribe 59 = .ok (.goto 4, 3) := by decide +kernel
theorem dX11_tribe_62 : decode cX11_tribe 62 = .ok (.iconst 0, 1) := by decide +kernel
theorem dX11_tribe_63 : decode cX11_tribe 63 = .ok (.ior, 1) := by decide +kernel
theorem dX11_tribe_64 : decode cX11_tribe 64 = .ok (.istore_n 2, 1) := by decide +kernel
theorem dX11_tribe_65 : decode cX11_tribe 65 = .ok (.iinc 4 1, 3) := by decide +kernel
theorem dX11_tribe_68 : decode cX11_tribe 68 = .ok (.goto (-43), 3) := by decide +kernel
theorem dX11_tribe_71 : decode cX11_tribe 71 = .ok (.iinc 3 1, 3) := by decide +kernel
theorem dX11_tribe_74 : decode cX11_tribe 74 = .ok (.goto (-58), 3) := by decide +kernel
theorem dX11_tribe_77 : decode cX11_tribe 77 = .ok (.iload_n 2, 1) := by decide +kernel
theorem dX11_tribe_78 : decode cX11_tribe 78 = .ok (.ireturn, 1) := by decide +kernel
theorem dX11_hopeOf_0 : decode cX11_hopeOf 0 = .ok (.iconst 0, 1) := by decide +kernel
theorem dX11_hopeOf_1 : decode cX11_hopeOf 1 = .ok (.istore_n 2, 1) := by decide +kernel
theorem dX11_hopeOf_2 : decode cX11_hopeOf 2 = .ok (.iconst 0, 1) := by decide +kernel
theorem dX11_hopeOf_3 : decode cX11_hopeOf 3 = .ok (.istore_n 3, 1) := by decide +kernel
theorem dX11_hopeOf_4 : decode cX11_hopeOf 4 = .ok (.iload_n 3, 1) := by decide +kernel
theorem dX11_hopeOf_5 : decode cX11_hopeOf 5 = .ok (.aload_n 0, 1) := by decide +kernel
theorem dX11_hopeOf_6 : decode cX11_hopeOf 6 = .ok (.getfield 7, 3) := by decide +kernel
theorem dX11_hopeOf_9 : decode cX11_hopeOf 9 = .ok (.bipush 85, 2) := by decide +kernel
theorem dX11_hopeOf_11 : decode cX11_hopeOf 11 = .ok (.iaload, 1) := by decide +kernel
theorem dX11_hopeOf_12 : decode cX11_hopeOf 12 = .ok (.if_icmp .ge 49, 3) := by decide +kernel
theorem dX11_hopeOf_15 : decode cX11_hopeOf 15 = .ok (.iload_n 1, 1) := by decide +kernel
theorem dX11_hopeOf_16 : decode cX11_hopeOf 16 = .ok (.iload_n 3, 1) := by decide +kernel
theorem dX11_hopeOf_17 : decode cX11_hopeOf 17 = .ok (.ishr, 1) := by decide +kernel
theorem dX11_hopeOf_18 : decode cX11_hopeOf 18 = .ok (.iconst 1, 1) := by decide +kernel
theorem dX11_hopeOf_19 : decode cX11_hopeOf 19 = .ok (.iand, 1) := by decide +kernel
theorem dX11_hopeOf_20 : decode cX11_hopeOf 20 = .ok (.ifCond .ne 6, 3) := by decide +kernel
theorem dX11_hopeOf_23 : decode cX11_hopeOf 23 = .ok (.goto 32, 3) := by decide +kernel
theorem dX11_hopeOf_26 : decode cX11_hopeOf 26 = .ok (.aload_n 0, 1) := by decide +kernel
theorem dX11_hopeOf_27 : decode cX11_hopeOf 27 = .ok (.getfield 7, 3) := by decide +kernel
theorem dX11_hopeOf_30 : decode cX11_hopeOf 30 = .ok (.sipush 139, 3) := by decide +kernel
theorem dX11_hopeOf_33 : decode cX11_hopeOf 33 = .ok (.iload_n 3, 1) := by decide +kernel
theorem dX11_hopeOf_34 : decode cX11_hopeOf 34 = .ok (.iadd, 1) := by decide +kernel
theorem dX11_hopeOf_35 : decode cX11_hopeOf 35 = .ok (.iaload, 1) := by decide +kernel
theorem dX11_hopeOf_36 : decode cX11_hopeOf 36 = .ok (.iload_n 1, 1) := by decide +kernel
theorem dX11_hopeOf_37 : decode cX11_hopeOf 37 = .ok (.iand, 1) := by decide +kernel
theorem dX11_hopeOf_38 : decode cX11_hopeOf 38 = .ok (.ifCond .eq 5, 3) := by decide +kernel
theorem dX11_hopeOf_41 : decode cX11_hopeOf 41 = .ok (.iconst (-1), 1) := by decide +kernel
theorem dX11_hopeOf_42 : decode cX11_hopeOf 42 = .ok (.ireturn, 1) := by decide +kernel
theorem dX11_hopeOf_43 : decode cX11_hopeOf 43 = .ok (.iload_n 2, 1) := by decide +kernel
theorem dX11_hopeOf_44 : decode cX11_hopeOf 44 = .ok (.aload_n 0, 1) := by decide +kernel
theorem dX11_hopeOf_45 : decode cX11_hopeOf 45 = .ok (.getfield 7, 3) := by decide +kernel
theorem dX11_hopeOf_48 : decode cX11_hopeOf 48 = .ok (.bipush 115, 2) := by decide +kernel
theorem dX11_hopeOf_50 : decode cX11_hopeOf 50 = .ok (.iload_n 3, 1) := by decide +kernel
theorem dX11_hopeOf_51 : decode cX11_hopeOf 51 = .ok (.iadd, 1) := by decide +kernel
theorem dX11_hopeOf_52 : decode cX11_hopeOf 52 = .ok (.iaload, 1) := by decide +kernel
theorem dX11_hopeOf_53 : decode cX11_hopeOf 53 = .ok (.iadd, 1) := by decide +kernel
theorem dX11_hopeOf_54 : decode cX11_hopeOf 54 = .ok (.istore_n 2, 1) := by decide +kernel
theorem dX11_hopeOf_55 : decode cX11_hopeOf 55 = .ok (.iinc 3 1, 3) := by decide +kernel
theorem dX11_hopeOf_58 : decode cX11_hopeOf 58 = .ok (.goto (-54), 3) := by decide +kernel
theorem dX11_hopeOf_61 : decode cX11_hopeOf 61 = .ok (.iload_n 2, 1) := by decide +kernel
theorem dX11_hopeOf_62 : decode cX11_hopeOf 62 = .ok (.ireturn, 1) := by decide +kernel
theorem dX11_hopes_0 : decode cX11_hopes 0 = .ok (.iload_n 1, 1) := by decide +kernel
theorem dX11_hopes_1 : decode cX11_hopes 1 = .ok (.iconst 0, 1) := by decide +kernel
theorem dX11_hopes_2 : decode cX11_hopes 2 = .ok (.iconst 1, 1) := by decide +kernel
theorem dX11_hopes_3 : decode cX11_hopes 3 = .ok (.invokestatic 89, 3) := by decide +kernel
theorem dX11_hopes_6 : decode cX11_hopes 6 = .ok (.ifCond .ne 5, 3) := by decide +kernel
theorem dX11_hopes_9 : decode cX11_hopes 9 = .ok (.iconst (-1), 1) := by decide +kernel
theorem dX11_hopes_10 : decode cX11_hopes 10 = .ok (.ireturn, 1) := by decide +kernel
theorem dX11_hopes_11 : decode cX11_hopes 11 = .ok (.iconst 0, 1) := by decide +kernel
theorem dX11_hopes_12 : decode cX11_hopes 12 = .ok (.istore_n 2, 1) := by decide +kernel
theorem dX11_hopes_13 : decode cX11_hopes 13 = .ok (.iconst 1, 1) := by decide +kernel
theorem dX11_hopes_14 : decode cX11_hopes 14 = .ok (.istore_n 3, 1) := by decide +kernel
theorem dX11_hopes_15 : decode cX11_hopes 15 = .ok (.iload_n 3, 1) := by decide +kernel
theorem dX11_hopes_16 : decode cX11_hopes 16 = .ok (.iconst 1, 1) := by decide +kernel
theorem dX11_hopes_17 : decode cX11_hopes 17 = .ok (.aload_n 0, 1) := by decide +kernel
theorem dX11_hopes_18 : decode cX11_hopes 18 = .ok (.getfield 7, 3) := by decide +kernel
theorem dX11_hopes_21 : decode cX11_hopes 21 = .ok (.bipush 85, 2) := by decide +kernel
theorem dX11_hopes_23 : decode cX11_hopes 23 = .ok (.iaload, 1) := by decide +kernel
theorem dX11_hopes_24 : decode cX11_hopes 24 = .ok (.ishl, 1) := by decide +kernel
theorem dX11_hopes_25 : decode cX11_hopes 25 = .ok (.if_icmp .ge 24, 3) := by decide +kernel
theorem dX11_hopes_28 : decode cX11_hopes 28 = .ok (.aload_n 0, 1) := by decide +kernel
theorem dX11_hopes_29 : decode cX11_hopes 29 = .ok (.iload_n 3, 1) := by decide +kernel
theorem dX11_hopes_30 : decode cX11_hopes 30 = .ok (.invokevirtual 492, 3) := by decide +kernel
theorem dX11_hopes_33 : decode cX11_hopes 33 = .ok (.aload_n 0, 1) := by decide +kernel
theorem dX11_hopes_34 : decode cX11_hopes 34 = .ok (.iload_n 2, 1) := by decide +kernel
theorem dX11_hopes_35 : decode cX11_hopes 35 = .ok (.invokevirtual 492, 3) := by decide +kernel
theorem dX11_hopes_38 : decode cX11_hopes 38 = .ok (.if_icmp .le 5, 3) := by decide +kernel
theorem dX11_hopes_41 : decode cX11_hopes 41 = .ok (.iload_n 3, 1) := by decide +kernel
theorem dX11_hopes_42 : decode cX11_hopes 42 = .ok (.istore_n 2, 1) := by decide +kernel
theorem dX11_hopes_43 : decode cX11_hopes 43 = .ok (.iinc 3 1, 3) := by decide +kernel
theorem dX11_hopes_46 : decode cX11_hopes 46 = .ok (.goto (-31), 3) := by decide +kernel
theorem dX11_hopes_49 : decode cX11_hopes 49 = .ok (.iload_n 1, 1) := by decide +kernel
theorem dX11_hopes_50 : decode cX11_hopes 50 = .ok (.ifCond .ne 11, 3) := by decide +kernel
theorem dX11_hopes_53 : decode cX11_hopes 53 = .ok (.aload_n 0, 1) := by decide +kernel
theorem dX11_hopes_54 : decode cX11_hopes 54 = .ok (.iload_n 2, 1) := by decide +kernel
theorem dX11_hopes_55 : decode cX11_hopes 55 = .ok (.invokevirtual 492, 3) := by decide +kernel
theorem dX11_hopes_58 : decode cX11_hopes 58 = .ok (.goto 4, 3) := by decide +kernel
theorem dX11_hopes_61 : decode cX11_hopes 61 = .ok (.iload_n 2, 1) := by decide +kernel
theorem dX11_hopes_62 : decode cX11_hopes 62 = .ok (.ireturn, 1) := by decide +kernel
theorem dX11_image_0 : decode cX11_image 0 = .ok (.iload_n 1, 1) := by decide +kernel
theorem dX11_image_1 : decode cX11_image 1 = .ok (.ifCond .ne 12, 3) := by decide +kernel
theorem dX11_image_4 : decode cX11_image 4 = .ok (.aload_n 0, 1) := by decide +kernel
theorem dX11_image_5 : decode cX11_image 5 = .ok (.getfield 495, 3) := by decide +kernel
theorem dX11_image_8 : decode cX11_image 8 = .ok (.ifCond .ne 5, 3) := by decide +kernel
theorem dX11_image_11 : decode cX11_image 11 = .ok (.iconst 0, 1) := by decide +kernel
theorem dX11_image_12 : decode cX11_image 12 = .ok (.ireturn, 1) := by decide +kernel
theorem dX11_image_13 : decode cX11_image 13 = .ok (.iconst 0, 1) := by decide +kernel
theorem dX11_image_14 : decode cX11_image 14 = .ok (.istore_n 2, 1) := by decide +kernel
theorem dX11_image_15 : decode cX11_image 15 = .ok (.iload_n 2, 1) := by decide +kernel
theorem dX11_image_16 : decode cX11_image 16 = .ok (.sipush 1796, 3) := by decide +kernel
theorem dX11_image_19 : decode cX11_image 19 = .ok (.if_icmp .ge 40, 3) := by decide +kernel
theorem dX11_image_22 : decode cX11_image 22 = .ok (.iload_n 1, 1) := by decide +kernel
theorem dX11_image_23 : decode cX11_image 23 = .ok (.ifCond .eq 18, 3) := by decide +kernel
theorem dX11_image_26 : decode cX11_image 26 = .ok (.aload_n 0, 1) := by decide +kernel
theorem dX11_image_27 : decode cX11_image 27 = .ok (.getfield 13, 3) := by decide +kernel
theorem dX11_image_30 : decode cX11_image 30 = .ok (.iload_n 2, 1) := by decide +kernel
theorem dX11_image_31 : decode cX11_image 31 = .ok (.aload_n 0, 1) := by decide +kernel
theorem dX11_image_32 : decode cX11_image 32 = .ok (.getfield 7, 3) := by decide +kernel
theorem dX11_image_35 : decode cX11_image 35 = .ok (.iload_n 2, 1) := by decide +kernel
theorem dX11_image_36 : decode cX11_image 36 = .ok (.iaload, 1) := by decide +kernel
theorem dX11_image_37 : decode cX11_image 37 = .ok (.iastore, 1) := by decide +kernel
theorem dX11_image_38 : decode cX11_image 38 = .ok (.goto 15, 3) := by decide +kernel
theorem dX11_image_41 : decode cX11_image 41 = .ok (.aload_n 0, 1) := by decide +kernel
theorem dX11_image_42 : decode cX11_image 42 = .ok (.getfield 7, 3) := by decide +kernel
theorem dX11_image_45 : decode cX11_image 45 = .ok (.iload_n 2, 1) := by decide +kernel
theorem dX11_image_46 : decode cX11_image 46 = .ok (.aload_n 0, 1) := by decide +kernel
theorem dX11_image_47 : decode cX11_image 47 = .ok (.getfield 13, 3) := by decide +kernel
theorem dX11_image_50 : decode cX11_image 50 = .ok (.iload_n 2, 1) := by decide +kernel
theorem dX11_image_51 : decode cX11_image 51 = .ok (.iaload, 1) := by decide +kernel
theorem dX11_image_52 : decode cX11_image 52 = .ok (.iastore, 1) := by decide +kernel
theorem dX11_image_53 : decode cX11_image 53 = .ok (.iinc 2 1, 3) := by decide +kernel
theorem dX11_image_56 : decode cX11_image 56 = .ok (.goto (-41), 3) := by decide +kernel
theorem dX11_image_59 : decode cX11_image 59 = .ok (.iload_n 1, 1) := by decide +kernel
theorem dX11_image_60 : decode cX11_image 60 = .ok (.ifCond .ne 7, 3) := by decide +kernel
theorem dX11_image_63 : decode cX11_image 63 = .ok (.aload_n 0, 1) := by decide +kernel
theorem dX11_image_64 : decode cX11_image 64 = .ok (.invokevirtual 104, 3) := by decide +kernel
theorem dX11_image_67 : decode cX11_image 67 = .ok (.aload_n 0, 1) := by decide +kernel
theorem dX11_image_68 : decode cX11_image 68 = .ok (.iconst 1, 1) := by decide +kernel
theorem dX11_image_69 : decode cX11_image 69 = .ok (.putfield 495, 3) := by decide +kernel
theorem dX11_image_72 : decode cX11_image 72 = .ok (.iconst 1, 1) := by decide +kernel
theorem dX11_image_73 : decode cX11_image 73 = .ok (.ireturn, 1) := by decide +kernel
theorem dX11_bareFields_0 : decode cX11_bareFields 0 = .ok (.iconst 0, 1) := by decide +kernel
theorem dX11_bareFields_1 : decode cX11_bareFields 1 = .ok (.istore_n 1, 1) := by decide +kernel
theorem dX11_bareFields_2 : decode cX11_bareFields 2 = .ok (.iconst 0, 1) := by decide +kernel
theorem dX11_bareFields_3 : decode cX11_bareFields 3 = .ok (.istore_n 2, 1) := by decide +kernel
theorem dX11_bareFields_4 : decode cX11_bareFields 4 = .ok (.iload_n 2, 1) := by decide +kernel
theorem dX11_bareFields_5 : decode cX11_bareFields 5 = .ok (.bipush 64, 2) := by decide +kernel
theorem dX11_bareFields_7 : decode cX11_bareFields 7 = .ok (.if_icmp .ge 36, 3) := by decide +kernel
theorem dX11_bareFields_10 : decode cX11_bareFields 10 = .ok (.iload_n 1, 1) := by decide +kernel
theorem dX11_bareFields_11 : decode cX11_bareFields 11 = .ok (.aload_n 0, 1) := by decide +kernel
theorem dX11_bareFields_12 : decode cX11_bareFields 12 = .ok (.iload_n 2, 1) := by decide +kernel
theorem dX11_bareFields_13 : decode cX11_bareFields 13 = .ok (.invokevirtual 82, 3) := by decide +kernel
theorem dX11_bareFields_16 : decode cX11_bareFields 16 = .ok (.ifCond .eq 18, 3) := by decide +kernel
theorem dX11_bareFields_19 : decode cX11_bareFields 19 = .ok (.aload_n 0, 1) := by decide +kernel
theorem dX11_bareFields_20 : decode cX11_bareFields 20 = .ok (.getfield 7, 3) := by decide +kernel
theorem dX11_bareFields_23 : decode cX11_bareFields 23 = .ok (.iconst 4, 1) := by decide +kernel
theorem dX11_bareFields_24 : decode cX11_bareFields 24 = .ok (.iload_n 2, 1) := by decide +kernel
theorem dX11_bareFields_25 : decode cX11_bareFields 25 = .ok (.iadd, 1) := by decide +kernel
theorem dX11_bareFields_26 : decode cX11_bareFields 26 = .ok (.iaload, 1) := by decide +kernel
theorem dX11_bareFields_27 : decode cX11_bareFields 27 = .ok (.ifCond .ne 7, 3) := by decide +kernel
theorem dX11_bareFields_30 : decode cX11_bareFields 30 = .ok (.iconst 1, 1) := by decide +kernel
theorem dX11_bareFields_31 : decode cX11_bareFields 31 = .ok (.goto 4, 3) := by decide +kernel
theorem dX11_bareFields_34 : decode cX11_bareFields 34 = .ok (.iconst 0, 1) := by decide +kernel
theorem dX11_bareFields_35 : decode cX11_bareFields 35 = .ok (.iadd, 1) := by decide +kernel
theorem dX11_bareFields_36 : decode cX11_bareFields 36 = .ok (.istore_n 1, 1) := by decide +kernel
theorem dX11_bareFields_37 : decode cX11_bareFields 37 = .ok (.iinc 2 1, 3) := by decide +kernel
theorem dX11_bareFields_40 : decode cX11_bareFields 40 = .ok (.goto (-36), 3) := by decide +kernel
theorem dX11_bareFields_43 : decode cX11_bareFields 43 = .ok (.iload_n 1, 1) := by decide +kernel
theorem dX11_bareFields_44 : decode cX11_bareFields 44 = .ok (.ireturn, 1) := by decide +kernel
theorem dX11_look_0 : decode cX11_look 0 = .ok (.iload_n 1, 1) := by decide +kernel
theorem dX11_look_1 : decode cX11_look 1 = .ok (.tableswitch 209 0 16 #[83, 91, 99, 106, 114, 122, 130, 138, 145, 152, 159, 167, 175, 183, 191, 199, 204], 83) := by decide +kernel
theorem dX11_look_84 : decode cX11_look 84 = .ok (.aload_n 0, 1) := by decide +kernel
theorem dX11_look_85 : decode cX11_look 85 = .ok (.getfield 7, 3) := by decide +kernel
theorem dX11_look_88 : decode cX11_look 88 = .ok (.bipush 80, 2) := by decide +kernel
theorem dX11_look_90 : decode cX11_look 90 = .ok (.iaload, 1) := by decide +kernel
theorem dX11_look_91 : decode cX11_look 91 = .ok (.ireturn, 1) := by decide +kernel
theorem dX11_look_92 : decode cX11_look 92 = .ok (.aload_n 0, 1) := by decide +kernel
theorem dX11_look_93 : decode cX11_look 93 = .ok (.getfield 7, 3) := by decide +kernel
theorem dX11_look_96 : decode cX11_look 96 = .ok (.bipush 81, 2) := by decide +kernel
theorem dX11_look_98 : decode cX11_look 98 = .ok (.iaload, 1) := by decide +kernel
theorem dX11_look_99 : decode cX11_look 99 = .ok (.ireturn, 1) := by decide +kernel
theorem dX11_look_100 : decode cX11_look 100 = .ok (.aload_n 0, 1) := by decide +kernel
theorem dX11_look_101 : decode cX11_look 101 = .ok (.getfield 7, 3) := by decide +kernel
theorem dX11_look_104 : decode cX11_look 104 = .ok (.iconst 0, 1) := by decide +kernel
theorem dX11_look_105 : decode cX11_look 105 = .ok (.iaload, 1) := by decide +kernel
theorem dX11_look_106 : decode cX11_look 106 = .ok (.ireturn, 1) := by decide +kernel
theorem dX11_look_107 : decode cX11_look 107 = .ok (.aload_n 0, 1) := by decide +kernel
theorem dX11_look_108 : decode cX11_look 108 = .ok (.getfield 7, 3) := by decide +kernel
theorem dX11_look_111 : decode cX11_look 111 = .ok (.bipush 82, 2) := by decide +kernel
theorem dX11_look_113 : decode cX11_look 113 = .ok (.iaload, 1) := by decide +kernel
theorem dX11_look_114 : decode cX11_look 114 = .ok (.ireturn, 1) := by decide +kernel
theorem dX11_look_115 : decode cX11_look 115 = .ok (.aload_n 0, 1) := by decide +kernel
theorem dX11_look_116 : decode cX11_look 116 = .ok (.getfield 7, 3) := by decide +kernel
theorem dX11_look_119 : decode cX11_look 119 = .ok (.bipush 83, 2) := by decide +kernel
theorem dX11_look_121 : decode cX11_look 121 = .ok (.iaload, 1) := by decide +kernel
theorem dX11_look_122 : decode cX11_look 122 = .ok (.ireturn, 1) := by decide +kernel
theorem dX11_look_123 : decode cX11_look 123 = .ok (.aload_n 0, 1) := by decide +kernel
theorem dX11_look_124 : decode cX11_look 124 = .ok (.getfield 7, 3) := by decide +kernel
theorem dX11_look_127 : decode cX11_look 127 = .ok (.bipush 84, 2) := by decide +kernel
theorem dX11_look_129 : decode cX11_look 129 = .ok (.iaload, 1) := by decide +kernel
theorem dX11_look_130 : decode cX11_look 130 = .ok (.ireturn, 1) := by decide +kernel
theorem dX11_look_131 : decode cX11_look 131 = .ok (.aload_n 0, 1) := by decide +kernel
theorem dX11_look_132 : decode cX11_look 132 = .ok (.getfield 7, 3) := by decide +kernel
theorem dX11_look_135 : decode cX11_look 135 = .ok (.bipush 85, 2) := by decide +kernel
theorem dX11_look_137 : decode cX11_look 137 = .ok (.iaload, 1) := by decide +kernel
theorem dX11_look_138 : decode cX11_look 138 = .ok (.ireturn, 1) := by decide +kernel
theorem dX11_look_139 : decode cX11_look 139 = .ok (.aload_n 0, 1) := by decide +kernel
theorem dX11_look_140 : decode cX11_look 140 = .ok (.getfield 7, 3) := by decide +kernel
theorem dX11_look_143 : decode cX11_look 143 = .ok (.iconst 1, 1) := by decide +kernel
theorem dX11_look_144 : decode cX11_look 144 = .ok (.iaload, 1) := by decide +kernel
theorem dX11_look_145 : decode cX11_look 145 = .ok (.ireturn, 1) := by decide +kernel
theorem dX11_look_146 : decode cX11_look 146 = .ok (.aload_n 0, 1) := by decide +kernel
theorem dX11_look_147 : decode cX11_look 147 = .ok (.getfield 7, 3) := by decide +kernel
theorem dX11_look_150 : decode cX11_look 150 = .ok (.iconst 3, 1) := by decide +kernel
theorem dX11_look_151 : decode cX11_look 151 = .ok (.iaload, 1) := by decide +kernel
theorem dX11_look_152 : decode cX11_look 152 = .ok (.ireturn, 1) := by decide +kernel
theorem dX11_look_153 : decode cX11_look 153 = .ok (.aload_n 0, 1) := by decide +kernel
theorem dX11_look_154 : decode cX11_look 154 = .ok (.getfield 7, 3) := by decide +kernel
theorem dX11_look_157 : decode cX11_look 157 = .ok (.iconst 2, 1) := by decide +kernel
theorem dX11_look_158 : decode cX11_look 158 = .ok (.iaload, 1) := by decide +kernel
theorem dX11_look_159 : decode cX11_look 159 = .ok (.ireturn, 1) := by decide +kernel
theorem dX11_look_160 : decode cX11_look 160 = .ok (.aload_n 0, 1) := by decide +kernel
theorem dX11_look_161 : decode cX11_look 161 = .ok (.getfield 7, 3) := by decide +kernel
theorem dX11_look_164 : decode cX11_look 164 = .ok (.bipush 86, 2) := by decide +kernel
theorem dX11_look_166 : decode cX11_look 166 = .ok (.iaload, 1) := by decide +kernel
theorem dX11_look_167 : decode cX11_look 167 = .ok (.ireturn, 1) := by decide +kernel
theorem dX11_look_168 : decode cX11_look 168 = .ok (.aload_n 0, 1) := by decide +kernel
theorem dX11_look_169 : decode cX11_look 169 = .ok (.getfield 7, 3) := by decide +kernel
theorem dX11_look_172 : decode cX11_look 172 = .ok (.bipush 87, 2) := by decide +kernel
theorem dX11_look_174 : decode cX11_look 174 = .ok (.iaload, 1) := by decide +kernel
theorem dX11_look_175 : decode cX11_look 175 = .ok (.ireturn, 1) := by decide +kernel
theorem dX11_look_176 : decode cX11_look 176 = .ok (.aload_n 0, 1) := by decide +kernel
theorem dX11_look_177 : decode cX11_look 177 = .ok (.getfield 7, 3) := by decide +kernel
theorem dX11_look_180 : decode cX11_look 180 = .ok (.bipush 88, 2) := by decide +kernel
theorem dX11_look_182 : decode cX11_look 182 = .ok (.iaload, 1) := by decide +kernel
theorem dX11_look_183 : decode cX11_look 183 = .ok (.ireturn, 1) := by decide +kernel
theorem dX11_look_184 : decode cX11_look 184 = .ok (.aload_n 0, 1) := by decide +kernel
theorem dX11_look_185 : decode cX11_look 185 = .ok (.getfield 7, 3) := by decide +kernel
theorem dX11_look_188 : decode cX11_look 188 = .ok (.bipush 89, 2) := by decide +kernel
theorem dX11_look_190 : decode cX11_look 190 = .ok (.iaload, 1) := by decide +kernel
theorem dX11_look_191 : decode cX11_look 191 = .ok (.ireturn, 1) := by decide +kernel
theorem dX11_look_192 : decode cX11_look 192 = .ok (.aload_n 0, 1) := by decide +kernel
theorem dX11_look_193 : decode cX11_look 193 = .ok (.getfield 7, 3) := by decide +kernel
theorem dX11_look_196 : decode cX11_look 196 = .ok (.bipush 90, 2) := by decide +kernel
theorem dX11_look_198 : decode cX11_look 198 = .ok (.iaload, 1) := by decide +kernel
theorem dX11_look_199 : decode cX11_look 199 = .ok (.ireturn, 1) := by decide +kernel
theorem dX11_look_200 : decode cX11_look 200 = .ok (.aload_n 0, 1) := by decide +kernel
theorem dX11_look_201 : decode cX11_look 201 = .ok (.getfield 86, 3) := by decide +kernel
theorem dX11_look_204 : decode cX11_look 204 = .ok (.ireturn, 1) := by decide +kernel
theorem dX11_look_205 : decode cX11_look 205 = .ok (.aload_n 0, 1) := by decide +kernel
theorem dX11_look_206 : decode cX11_look 206 = .ok (.invokevirtual 498, 3) := by decide +kernel
theorem dX11_look_209 : decode cX11_look 209 = .ok (.ireturn, 1) := by decide +kernel
theorem dX11_look_210 : decode cX11_look 210 = .ok (.ldc_w 501, 3) := by decide +kernel
theorem dX11_look_213 : decode cX11_look 213 = .ok (.ireturn, 1) := by decide +kernel
theorem dJ11_isValidCodePoint_9a6ad_0 : decode cJ11_isValidCodePoint_9a6ad 0 = .ok (.iload_n 0, 1) := by decide +kernel
theorem dJ11_isValidCodePoint_9a6ad_1 : decode cJ11_isValidCodePoint_9a6ad 1 = .ok (.bipush 16, 2) := by decide +kernel
theorem dJ11_isValidCodePoint_9a6ad_3 : decode cJ11_isValidCodePoint_9a6ad 3 = .ok (.iushr, 1) := by decide +kernel
theorem dJ11_isValidCodePoint_9a6ad_4 : decode cJ11_isValidCodePoint_9a6ad 4 = .ok (.istore_n 1, 1) := by decide +kernel
theorem dJ11_isValidCodePoint_9a6ad_5 : decode cJ11_isValidCodePoint_9a6ad 5 = .ok (.iload_n 1, 1) := by decide +kernel
theorem dJ11_isValidCodePoint_9a6ad_6 : decode cJ11_isValidCodePoint_9a6ad 6 = .ok (.bipush 17, 2) := by decide +kernel
theorem dJ11_isValidCodePoint_9a6ad_8 : decode cJ11_isValidCodePoint_9a6ad 8 = .ok (.if_icmp .ge 7, 3) := by decide +kernel
theorem dJ11_isValidCodePoint_9a6ad_11 : decode cJ11_isValidCodePoint_9a6ad 11 = .ok (.iconst 1, 1) := by decide +kernel
theorem dJ11_isValidCodePoint_9a6ad_12 : decode cJ11_isValidCodePoint_9a6ad 12 = .ok (.goto 4, 3) := by decide +kernel
theorem dJ11_isValidCodePoint_9a6ad_15 : decode cJ11_isValidCodePoint_9a6ad 15 = .ok (.iconst 0, 1) := by decide +kernel
theorem dJ11_isValidCodePoint_9a6ad_16 : decode cJ11_isValidCodePoint_9a6ad 16 = .ok (.ireturn, 1) := by decide +kernel
theorem dJ11_highSurrogate_5068e_0 : decode cJ11_highSurrogate_5068e 0 = .ok (.iload_n 0, 1) := by decide +kernel
theorem dJ11_highSurrogate_5068e_1 : decode cJ11_highSurrogate_5068e 1 = .ok (.bipush 10, 2) := by decide +kernel
theorem dJ11_highSurrogate_5068e_3 : decode cJ11_highSurrogate_5068e 3 = .ok (.iushr, 1) := by decide +kernel
theorem dJ11_highSurrogate_5068e_4 : decode cJ11_highSurrogate_5068e 4 = .ok (.ldc 110, 2) := by decide +kernel
theorem dJ11_highSurrogate_5068e_6 : decode cJ11_highSurrogate_5068e 6 = .ok (.iadd, 1) := by decide +kernel
theorem dJ11_highSurrogate_5068e_7 : decode cJ11_highSurrogate_5068e 7 = .ok (.i2c, 1) := by decide +kernel
theorem dJ11_highSurrogate_5068e_8 : decode cJ11_highSurrogate_5068e 8 = .ok (.ireturn, 1) := by decide +kernel
theorem dJ11_lowSurrogate_5068e_0 : decode cJ11_lowSurrogate_5068e 0 = .ok (.iload_n 0, 1) := by decide +kernel
theorem dJ11_lowSurrogate_5068e_1 : decode cJ11_lowSurrogate_5068e 1 = .ok (.sipush 1023, 3) := by decide +kernel
theorem dJ11_lowSurrogate_5068e_4 : decode cJ11_lowSurrogate_5068e 4 = .ok (.iand, 1) := by decide +kernel
theorem dJ11_lowSurrogate_5068e_5 : decode cJ11_lowSurrogate_5068e 5 = .ok (.ldc 76, 2) := by decide +kernel
theorem dJ11_lowSurrogate_5068e_7 : decode cJ11_lowSurrogate_5068e 7 = .ok (.iadd, 1) := by decide +kernel
theorem dJ11_lowSurrogate_5068e_8 : decode cJ11_lowSurrogate_5068e 8 = .ok (.i2c, 1) := by decide +kernel
theorem dJ11_lowSurrogate_5068e_9 : decode cJ11_lowSurrogate_5068e 9 = .ok (.ireturn, 1) := by decide +kernel
theorem dJ6_bitCount_0f7a4_0 : decode cJ6_bitCount_0f7a4 0 = .ok (.iload_n 0, 1) := by decide +kernel
theorem dJ6_bitCount_0f7a4_1 : decode cJ6_bitCount_0f7a4 1 = .ok (.iload_n 0, 1) := by decide +kernel
theorem dJ6_bitCount_0f7a4_2 : decode cJ6_bitCount_0f7a4 2 = .ok (.iconst 1, 1) := by decide +kernel
theorem dJ6_bitCount_0f7a4_3 : decode cJ6_bitCount_0f7a4 3 = .ok (.iushr, 1) := by decide +kernel
theorem dJ6_bitCount_0f7a4_4 : decode cJ6_bitCount_0f7a4 4 = .ok (.ldc_w 265, 3) := by decide +kernel
theorem dJ6_bitCount_0f7a4_7 : decode cJ6_bitCount_0f7a4 7 = .ok (.iand, 1) := by decide +kernel
theorem dJ6_bitCount_0f7a4_8 : decode cJ6_bitCount_0f7a4 8 = .ok (.isub, 1) := by decide +kernel
theorem dJ6_bitCount_0f7a4_9 : decode cJ6_bitCount_0f7a4 9 = .ok (.istore_n 0, 1) := by decide +kernel
theorem dJ6_bitCount_0f7a4_10 : decode cJ6_bitCount_0f7a4 10 = .ok (.iload_n 0, 1) := by decide +kernel
theorem dJ6_bitCount_0f7a4_11 : decode cJ6_bitCount_0f7a4 11 = .ok (.ldc_w 266, 3) := by decide +kernel
theorem dJ6_bitCount_0f7a4_14 : decode cJ6_bitCount_0f7a4 14 = .ok (.iand, 1) := by decide +kernel
theorem dJ6_bitCount_0f7a4_15 : decode cJ6_bitCount_0f7a4 15 = .ok (.iload_n 0, 1) := by decide +kernel
theorem dJ6_bitCount_0f7a4_16 : decode cJ6_bitCount_0f7a4 16 = .ok (.iconst 2, 1) := by decide +kernel
theorem dJ6_bitCount_0f7a4_17 : decode cJ6_bitCount_0f7a4 17 = .ok (.iushr, 1) := by decide +kernel
theorem dJ6_bitCount_0f7a4_18 : decode cJ6_bitCount_0f7a4 18 = .ok (.ldc_w 266, 3) := by decide +kernel
theorem dJ6_bitCount_0f7a4_21 : decode cJ6_bitCount_0f7a4 21 = .ok (.iand, 1) := by decide +kernel
theorem dJ6_bitCount_0f7a4_22 : decode cJ6_bitCount_0f7a4 22 = .ok (.iadd, 1) := by decide +kernel
theorem dJ6_bitCount_0f7a4_23 : decode cJ6_bitCount_0f7a4 23 = .ok (.istore_n 0, 1) := by decide +kernel
theorem dJ6_bitCount_0f7a4_24 : decode cJ6_bitCount_0f7a4 24 = .ok (.iload_n 0, 1) := by decide +kernel
theorem dJ6_bitCount_0f7a4_25 : decode cJ6_bitCount_0f7a4 25 = .ok (.iload_n 0, 1) := by decide +kernel
theorem dJ6_bitCount_0f7a4_26 : decode cJ6_bitCount_0f7a4 26 = .ok (.iconst 4, 1) := by decide +kernel
theorem dJ6_bitCount_0f7a4_27 : decode cJ6_bitCount_0f7a4 27 = .ok (.iushr, 1) := by decide +kernel
theorem dJ6_bitCount_0f7a4_28 : decode cJ6_bitCount_0f7a4 28 = .ok (.iadd, 1) := by decide +kernel
theorem dJ6_bitCount_0f7a4_29 : decode cJ6_bitCount_0f7a4 29 = .ok (.ldc_w 267, 3) := by decide +kernel
theorem dJ6_bitCount_0f7a4_32 : decode cJ6_bitCount_0f7a4 32 = .ok (.iand, 1) := by decide +kernel
theorem dJ6_bitCount_0f7a4_33 : decode cJ6_bitCount_0f7a4 33 = .ok (.istore_n 0, 1) := by decide +kernel
theorem dJ6_bitCount_0f7a4_34 : decode cJ6_bitCount_0f7a4 34 = .ok (.iload_n 0, 1) := by decide +kernel
theorem dJ6_bitCount_0f7a4_35 : decode cJ6_bitCount_0f7a4 35 = .ok (.iload_n 0, 1) := by decide +kernel
theorem dJ6_bitCount_0f7a4_36 : decode cJ6_bitCount_0f7a4 36 = .ok (.bipush 8, 2) := by decide +kernel
theorem dJ6_bitCount_0f7a4_38 : decode cJ6_bitCount_0f7a4 38 = .ok (.iushr, 1) := by decide +kernel
theorem dJ6_bitCount_0f7a4_39 : decode cJ6_bitCount_0f7a4 39 = .ok (.iadd, 1) := by decide +kernel
theorem dJ6_bitCount_0f7a4_40 : decode cJ6_bitCount_0f7a4 40 = .ok (.istore_n 0, 1) := by decide +kernel
theorem dJ6_bitCount_0f7a4_41 : decode cJ6_bitCount_0f7a4 41 = .ok (.iload_n 0, 1) := by decide +kernel
theorem dJ6_bitCount_0f7a4_42 : decode cJ6_bitCount_0f7a4 42 = .ok (.iload_n 0, 1) := by decide +kernel
theorem dJ6_bitCount_0f7a4_43 : decode cJ6_bitCount_0f7a4 43 = .ok (.bipush 16, 2) := by decide +kernel
theorem dJ6_bitCount_0f7a4_45 : decode cJ6_bitCount_0f7a4 45 = .ok (.iushr, 1) := by decide +kernel
theorem dJ6_bitCount_0f7a4_46 : decode cJ6_bitCount_0f7a4 46 = .ok (.iadd, 1) := by decide +kernel
theorem dJ6_bitCount_0f7a4_47 : decode cJ6_bitCount_0f7a4 47 = .ok (.istore_n 0, 1) := by decide +kernel
theorem dJ6_bitCount_0f7a4_48 : decode cJ6_bitCount_0f7a4 48 = .ok (.iload_n 0, 1) := by decide +kernel
theorem dJ6_bitCount_0f7a4_49 : decode cJ6_bitCount_0f7a4 49 = .ok (.bipush 63, 2) := by decide +kernel
theorem dJ6_bitCount_0f7a4_51 : decode cJ6_bitCount_0f7a4 51 = .ok (.iand, 1) := by decide +kernel
theorem dJ6_bitCount_0f7a4_52 : decode cJ6_bitCount_0f7a4 52 = .ok (.ireturn, 1) := by decide +kernel
theorem dJ9_floorDiv_7cf53_0 : decode cJ9_floorDiv_7cf53 0 = .ok (.iload_n 0, 1) := by decide +kernel
theorem dJ9_floorDiv_7cf53_1 : decode cJ9_floorDiv_7cf53 1 = .ok (.iload_n 1, 1) := by decide +kernel
theorem dJ9_floorDiv_7cf53_2 : decode cJ9_floorDiv_7cf53 2 = .ok (.idiv, 1) := by decide +kernel
theorem dJ9_floorDiv_7cf53_3 : decode cJ9_floorDiv_7cf53 3 = .ok (.istore_n 2, 1) := by decide +kernel
theorem dJ9_floorDiv_7cf53_4 : decode cJ9_floorDiv_7cf53 4 = .ok (.iload_n 0, 1) := by decide +kernel
theorem dJ9_floorDiv_7cf53_5 : decode cJ9_floorDiv_7cf53 5 = .ok (.iload_n 1, 1) := by decide +kernel
theorem dJ9_floorDiv_7cf53_6 : decode cJ9_floorDiv_7cf53 6 = .ok (.ixor, 1) := by decide +kernel
theorem dJ9_floorDiv_7cf53_7 : decode cJ9_floorDiv_7cf53 7 = .ok (.ifCond .ge 14, 3) := by decide +kernel
theorem dJ9_floorDiv_7cf53_10 : decode cJ9_floorDiv_7cf53 10 = .ok (.iload_n 2, 1) := by decide +kernel
theorem dJ9_floorDiv_7cf53_11 : decode cJ9_floorDiv_7cf53 11 = .ok (.iload_n 1, 1) := by decide +kernel
theorem dJ9_floorDiv_7cf53_12 : decode cJ9_floorDiv_7cf53 12 = .ok (.imul, 1) := by decide +kernel
theorem dJ9_floorDiv_7cf53_13 : decode cJ9_floorDiv_7cf53 13 = .ok (.iload_n 0, 1) := by decide +kernel
theorem dJ9_floorDiv_7cf53_14 : decode cJ9_floorDiv_7cf53 14 = .ok (.if_icmp .eq 7, 3) := by decide +kernel
theorem dJ9_floorDiv_7cf53_17 : decode cJ9_floorDiv_7cf53 17 = .ok (.iload_n 2, 1) := by decide +kernel
theorem dJ9_floorDiv_7cf53_18 : decode cJ9_floorDiv_7cf53 18 = .ok (.iconst 1, 1) := by decide +kernel
theorem dJ9_floorDiv_7cf53_19 : decode cJ9_floorDiv_7cf53 19 = .ok (.isub, 1) := by decide +kernel
theorem dJ9_floorDiv_7cf53_20 : decode cJ9_floorDiv_7cf53 20 = .ok (.ireturn, 1) := by decide +kernel
theorem dJ9_floorDiv_7cf53_21 : decode cJ9_floorDiv_7cf53 21 = .ok (.iload_n 2, 1) := by decide +kernel
theorem dJ9_floorDiv_7cf53_22 : decode cJ9_floorDiv_7cf53 22 = .ok (.ireturn, 1) := by decide +kernel
theorem dJ9_abs_0f7a4_0 : decode cJ9_abs_0f7a4 0 = .ok (.iload_n 0, 1) := by decide +kernel
theorem dJ9_abs_0f7a4_1 : decode cJ9_abs_0f7a4 1 = .ok (.ifCond .ge 8, 3) := by decide +kernel
theorem dJ9_abs_0f7a4_4 : decode cJ9_abs_0f7a4 4 = .ok (.iload_n 0, 1) := by decide +kernel
theorem dJ9_abs_0f7a4_5 : decode cJ9_abs_0f7a4 5 = .ok (.ineg, 1) := by decide +kernel
theorem dJ9_abs_0f7a4_6 : decode cJ9_abs_0f7a4 6 = .ok (.goto 4, 3) := by decide +kernel
theorem dJ9_abs_0f7a4_9 : decode cJ9_abs_0f7a4 9 = .ok (.iload_n 0, 1) := by decide +kernel
theorem dJ9_abs_0f7a4_10 : decode cJ9_abs_0f7a4 10 = .ok (.ireturn, 1) := by decide +kernel
theorem dJ9_max_7cf53_0 : decode cJ9_max_7cf53 0 = .ok (.iload_n 0, 1) := by decide +kernel
theorem dJ9_max_7cf53_1 : decode cJ9_max_7cf53 1 = .ok (.iload_n 1, 1) := by decide +kernel
theorem dJ9_max_7cf53_2 : decode cJ9_max_7cf53 2 = .ok (.if_icmp .lt 7, 3) := by decide +kernel
theorem dJ9_max_7cf53_5 : decode cJ9_max_7cf53 5 = .ok (.iload_n 0, 1) := by decide +kernel
theorem dJ9_max_7cf53_6 : decode cJ9_max_7cf53 6 = .ok (.goto 4, 3) := by decide +kernel
theorem dJ9_max_7cf53_9 : decode cJ9_max_7cf53 9 = .ok (.iload_n 1, 1) := by decide +kernel
theorem dJ9_max_7cf53_10 : decode cJ9_max_7cf53 10 = .ok (.ireturn, 1) := by decide +kernel
theorem dJ9_min_7cf53_0 : decode cJ9_min_7cf53 0 = .ok (.iload_n 0, 1) := by decide +kernel
theorem dJ9_min_7cf53_1 : decode cJ9_min_7cf53 1 = .ok (.iload_n 1, 1) := by decide +kernel
theorem dJ9_min_7cf53_2 : decode cJ9_min_7cf53 2 = .ok (.if_icmp .gt 7, 3) := by decide +kernel
theorem dJ9_min_7cf53_5 : decode cJ9_min_7cf53 5 = .ok (.iload_n 0, 1) := by decide +kernel
theorem dJ9_min_7cf53_6 : decode cJ9_min_7cf53 6 = .ok (.goto 4, 3) := by decide +kernel
theorem dJ9_min_7cf53_9 : decode cJ9_min_7cf53 9 = .ok (.iload_n 1, 1) := by decide +kernel
theorem dJ9_min_7cf53_10 : decode cJ9_min_7cf53 10 = .ok (.ireturn, 1) := by decide +kernel
theorem dJ0_length_8abf5_0 : decode cJ0_length_8abf5 0 = .ok (.aload_n 0, 1) := by decide +kernel
theorem dJ0_length_8abf5_1 : decode cJ0_length_8abf5 1 = .ok (.getfield 9, 3) := by decide +kernel
theorem dJ0_length_8abf5_4 : decode cJ0_length_8abf5 4 = .ok (.arraylength, 1) := by decide +kernel
theorem dJ0_length_8abf5_5 : decode cJ0_length_8abf5 5 = .ok (.aload_n 0, 1) := by decide +kernel
theorem dJ0_length_8abf5_6 : decode cJ0_length_8abf5 6 = .ok (.invokevirtual 335, 3) := by decide +kernel
theorem dJ0_length_8abf5_9 : decode cJ0_length_8abf5 9 = .ok (.ishr, 1) := by decide +kernel
theorem dJ0_length_8abf5_10 : decode cJ0_length_8abf5 10 = .ok (.ireturn, 1) := by decide +kernel
theorem dJ0_charAt_5068e_0 : decode cJ0_charAt_5068e 0 = .ok (.aload_n 0, 1) := by decide +kernel
theorem dJ0_charAt_5068e_1 : decode cJ0_charAt_5068e 1 = .ok (.invokevirtual 492, 3) := by decide +kernel
theorem dJ0_charAt_5068e_4 : decode cJ0_charAt_5068e 4 = .ok (.ifCond .eq 12, 3) := by decide +kernel
theorem dJ0_charAt_5068e_7 : decode cJ0_charAt_5068e 7 = .ok (.aload_n 0, 1) := by decide +kernel
theorem dJ0_charAt_5068e_8 : decode cJ0_charAt_5068e 8 = .ok (.getfield 9, 3) := by decide +kernel
theorem dJ0_charAt_5068e_11 : decode cJ0_charAt_5068e 11 = .ok (.iload_n 1, 1) := by decide +kernel
theorem dJ0_charAt_5068e_12 : decode cJ0_charAt_5068e 12 = .ok (.invokestatic 495, 3) := by decide +kernel
theorem dJ0_charAt_5068e_15 : decode cJ0_charAt_5068e 15 = .ok (.ireturn, 1) := by decide +kernel
theorem dJ0_charAt_5068e_16 : decode cJ0_charAt_5068e 16 = .ok (.aload_n 0, 1) := by decide +kernel
theorem dJ0_charAt_5068e_17 : decode cJ0_charAt_5068e 17 = .ok (.getfield 9, 3) := by decide +kernel
theorem dJ0_charAt_5068e_20 : decode cJ0_charAt_5068e 20 = .ok (.iload_n 1, 1) := by decide +kernel
theorem dJ0_charAt_5068e_21 : decode cJ0_charAt_5068e 21 = .ok (.invokestatic 498, 3) := by decide +kernel
theorem dJ0_charAt_5068e_24 : decode cJ0_charAt_5068e 24 = .ok (.ireturn, 1) := by decide +kernel
theorem dJ0_indexOf_0f7a4_0 : decode cJ0_indexOf_0f7a4 0 = .ok (.aload_n 0, 1) := by decide +kernel
theorem dJ0_indexOf_0f7a4_1 : decode cJ0_indexOf_0f7a4 1 = .ok (.iload_n 1, 1) := by decide +kernel
theorem dJ0_indexOf_0f7a4_2 : decode cJ0_indexOf_0f7a4 2 = .ok (.iconst 0, 1) := by decide +kernel
theorem dJ0_indexOf_0f7a4_3 : decode cJ0_indexOf_0f7a4 3 = .ok (.invokevirtual 633, 3) := by decide +kernel
theorem dJ0_indexOf_0f7a4_6 : decode cJ0_indexOf_0f7a4 6 = .ok (.ireturn, 1) := by decide +kernel
theorem dJ0_indexOf_7cf53_0 : decode cJ0_indexOf_7cf53 0 = .ok (.aload_n 0, 1) := by decide +kernel
theorem dJ0_indexOf_7cf53_1 : decode cJ0_indexOf_7cf53 1 = .ok (.invokevirtual 492, 3) := by decide +kernel
theorem dJ0_indexOf_7cf53_4 : decode cJ0_indexOf_7cf53 4 = .ok (.ifCond .eq 19, 3) := by decide +kernel
theorem dJ0_indexOf_7cf53_7 : decode cJ0_indexOf_7cf53 7 = .ok (.aload_n 0, 1) := by decide +kernel
theorem dJ0_indexOf_7cf53_8 : decode cJ0_indexOf_7cf53 8 = .ok (.getfield 9, 3) := by decide +kernel
theorem dJ0_indexOf_7cf53_11 : decode cJ0_indexOf_7cf53 11 = .ok (.iload_n 1, 1) := by decide +kernel
theorem dJ0_indexOf_7cf53_12 : decode cJ0_indexOf_7cf53 12 = .ok (.iload_n 2, 1) := by decide +kernel
theorem dJ0_indexOf_7cf53_13 : decode cJ0_indexOf_7cf53 13 = .ok (.aload_n 0, 1) := by decide +kernel
theorem dJ0_indexOf_7cf53_14 : decode cJ0_indexOf_7cf53 14 = .ok (.invokevirtual 505, 3) := by decide +kernel
theorem dJ0_indexOf_7cf53_17 : decode cJ0_indexOf_7cf53 17 = .ok (.invokestatic 637, 3) := by decide +kernel
theorem dJ0_indexOf_7cf53_20 : decode cJ0_indexOf_7cf53 20 = .ok (.goto 16, 3) := by decide +kernel
theorem dJ0_indexOf_7cf53_23 : decode cJ0_indexOf_7cf53 23 = .ok (.aload_n 0, 1) := by decide +kernel
theorem dJ0_indexOf_7cf53_24 : decode cJ0_indexOf_7cf53 24 = .ok (.getfield 9, 3) := by decide +kernel
theorem dJ0_indexOf_7cf53_27 : decode cJ0_indexOf_7cf53 27 = .ok (.iload_n 1, 1) := by decide +kernel
theorem dJ0_indexOf_7cf53_28 : decode cJ0_indexOf_7cf53 28 = .ok (.iload_n 2, 1) := by decide +kernel
theorem dJ0_indexOf_7cf53_29 : decode cJ0_indexOf_7cf53 29 = .ok (.aload_n 0, 1) := by decide +kernel
theorem dJ0_indexOf_7cf53_30 : decode cJ0_indexOf_7cf53 30 = .ok (.invokevirtual 505, 3) := by decide +kernel
theorem dJ0_indexOf_7cf53_33 : decode cJ0_indexOf_7cf53 33 = .ok (.invokestatic 640, 3) := by decide +kernel
theorem dJ0_indexOf_7cf53_36 : decode cJ0_indexOf_7cf53 36 = .ok (.ireturn, 1) := by decide +kernel
theorem dJ0_coder_7d493_0 : decode cJ0_coder_7d493 0 = .ok (.getstatic 38, 3) := by decide +kernel
theorem dJ0_coder_7d493_3 : decode cJ0_coder_7d493 3 = .ok (.ifCond .eq 10, 3) := by decide +kernel
theorem dJ0_coder_7d493_6 : decode cJ0_coder_7d493 6 = .ok (.aload_n 0, 1) := by decide +kernel
theorem dJ0_coder_7d493_7 : decode cJ0_coder_7d493 7 = .ok (.getfield 15, 3) := by decide +kernel
theorem dJ0_coder_7d493_10 : decode cJ0_coder_7d493 10 = .ok (.goto 4, 3) := by decide +kernel
theorem dJ0_coder_7d493_13 : decode cJ0_coder_7d493 13 = .ok (.iconst 1, 1) := by decide +kernel
theorem dJ0_coder_7d493_14 : decode cJ0_coder_7d493 14 = .ok (.ireturn, 1) := by decide +kernel
theorem dJ0_isLatin1_aae02_0 : decode cJ0_isLatin1_aae02 0 = .ok (.getstatic 38, 3) := by decide +kernel
theorem dJ0_isLatin1_aae02_3 : decode cJ0_isLatin1_aae02 3 = .ok (.ifCond .eq 14, 3) := by decide +kernel
theorem dJ0_isLatin1_aae02_6 : decode cJ0_isLatin1_aae02 6 = .ok (.aload_n 0, 1) := by decide +kernel
theorem dJ0_isLatin1_aae02_7 : decode cJ0_isLatin1_aae02 7 = .ok (.getfield 15, 3) := by decide +kernel
theorem dJ0_isLatin1_aae02_10 : decode cJ0_isLatin1_aae02 10 = .ok (.ifCond .ne 7, 3) := by decide +kernel
theorem dJ0_isLatin1_aae02_13 : decode cJ0_isLatin1_aae02 13 = .ok (.iconst 1, 1) := by decide +kernel
theorem dJ0_isLatin1_aae02_14 : decode cJ0_isLatin1_aae02 14 = .ok (.goto 4, 3) := by decide +kernel
theorem dJ0_isLatin1_aae02_17 : decode cJ0_isLatin1_aae02 17 = .ok (.iconst 0, 1) := by decide +kernel
theorem dJ0_isLatin1_aae02_18 : decode cJ0_isLatin1_aae02 18 = .ok (.ireturn, 1) := by decide +kernel
theorem dJ0_checkIndex_df160_0 : decode cJ0_checkIndex_df160 0 = .ok (.iload_n 0, 1) := by decide +kernel
theorem dJ0_checkIndex_df160_1 : decode cJ0_checkIndex_df160 1 = .ok (.iload_n 1, 1) := by decide +kernel
theorem dJ0_checkIndex_df160_2 : decode cJ0_checkIndex_df160 2 = .ok (.getstatic 1053, 3) := by decide +kernel
theorem dJ0_checkIndex_df160_5 : decode cJ0_checkIndex_df160 5 = .ok (.invokestatic 1059, 3) := by decide +kernel
theorem dJ0_checkIndex_df160_8 : decode cJ0_checkIndex_df160 8 = .ok (.pop, 1) := by decide +kernel
theorem dJ0_checkIndex_df160_9 : decode cJ0_checkIndex_df160 9 = .ok (.return_, 1) := by decide +kernel
theorem dJ0_checkBoundsBeginEnd_23922_0 : decode cJ0_checkBoundsBeginEnd_23922 0 = .ok (.iload_n 0, 1) := by decide +kernel
theorem dJ0_checkBoundsBeginEnd_23922_1 : decode cJ0_checkBoundsBeginEnd_23922 1 = .ok (.iload_n 1, 1) := by decide +kernel
theorem dJ0_checkBoundsBeginEnd_23922_2 : decode cJ0_checkBoundsBeginEnd_23922 2 = .ok (.iload_n 2, 1) := by decide +kernel
theorem dJ0_checkBoundsBeginEnd_23922_3 : decode cJ0_checkBoundsBeginEnd_23922 3 = .ok (.getstatic 1053, 3) := by decide +kernel
theorem dJ0_checkBoundsBeginEnd_23922_6 : decode cJ0_checkBoundsBeginEnd_23922 6 = .ok (.invokestatic 1062, 3) := by decide +kernel
theorem dJ0_checkBoundsBeginEnd_23922_9 : decode cJ0_checkBoundsBeginEnd_23922 9 = .ok (.pop, 1) := by decide +kernel
theorem dJ0_checkBoundsBeginEnd_23922_10 : decode cJ0_checkBoundsBeginEnd_23922 10 = .ok (.return_, 1) := by decide +kernel
theorem dJ1_charAt_3b067_0 : decode cJ1_charAt_3b067 0 = .ok (.iload_n 1, 1) := by decide +kernel
theorem dJ1_charAt_3b067_1 : decode cJ1_charAt_3b067 1 = .ok (.aload_n 0, 1) := by decide +kernel
theorem dJ1_charAt_3b067_2 : decode cJ1_charAt_3b067 2 = .ok (.arraylength, 1) := by decide +kernel
theorem dJ1_charAt_3b067_3 : decode cJ1_charAt_3b067 3 = .ok (.invokestatic 9, 3) := by decide +kernel
theorem dJ1_charAt_3b067_6 : decode cJ1_charAt_3b067 6 = .ok (.aload_n 0, 1) := by decide +kernel
theorem dJ1_charAt_3b067_7 : decode cJ1_charAt_3b067 7 = .ok (.iload_n 1, 1) := by decide +kernel
theorem dJ1_charAt_3b067_8 : decode cJ1_charAt_3b067 8 = .ok (.baload, 1) := by decide +kernel
theorem dJ1_charAt_3b067_9 : decode cJ1_charAt_3b067 9 = .ok (.sipush 255, 3) := by decide +kernel
theorem dJ1_charAt_3b067_12 : decode cJ1_charAt_3b067 12 = .ok (.iand, 1) := by decide +kernel
theorem dJ1_charAt_3b067_13 : decode cJ1_charAt_3b067 13 = .ok (.i2c, 1) := by decide +kernel
theorem dJ1_charAt_3b067_14 : decode cJ1_charAt_3b067 14 = .ok (.ireturn, 1) := by decide +kernel
theorem dJ1_canEncode_9a6ad_0 : decode cJ1_canEncode_9a6ad 0 = .ok (.iload_n 0, 1) := by decide +kernel
theorem dJ1_canEncode_9a6ad_1 : decode cJ1_canEncode_9a6ad 1 = .ok (.ifCond .lt 14, 3) := by decide +kernel
theorem dJ1_canEncode_9a6ad_4 : decode cJ1_canEncode_9a6ad 4 = .ok (.iload_n 0, 1) := by decide +kernel
theorem dJ1_canEncode_9a6ad_5 : decode cJ1_canEncode_9a6ad 5 = .ok (.sipush 255, 3) := by decide +kernel
theorem dJ1_canEncode_9a6ad_8 : decode cJ1_canEncode_9a6ad 8 = .ok (.if_icmp .gt 7, 3) := by decide +kernel
theorem dJ1_canEncode_9a6ad_11 : decode cJ1_canEncode_9a6ad 11 = .ok (.iconst 1, 1) := by decide +kernel
theorem dJ1_canEncode_9a6ad_12 : decode cJ1_canEncode_9a6ad 12 = .ok (.goto 4, 3) := by decide +kernel
theorem dJ1_canEncode_9a6ad_15 : decode cJ1_canEncode_9a6ad 15 = .ok (.iconst 0, 1) := by decide +kernel
theorem dJ1_canEncode_9a6ad_16 : decode cJ1_canEncode_9a6ad 16 = .ok (.ireturn, 1) := by decide +kernel
theorem dJ1_indexOf_4cfef_0 : decode cJ1_indexOf_4cfef 0 = .ok (.iload_n 1, 1) := by decide +kernel
theorem dJ1_indexOf_4cfef_1 : decode cJ1_indexOf_4cfef 1 = .ok (.invokestatic 88, 3) := by decide +kernel
theorem dJ1_indexOf_4cfef_4 : decode cJ1_indexOf_4cfef 4 = .ok (.ifCond .ne 5, 3) := by decide +kernel
theorem dJ1_indexOf_4cfef_7 : decode cJ1_indexOf_4cfef 7 = .ok (.iconst (-1), 1) := by decide +kernel
theorem dJ1_indexOf_4cfef_8 : decode cJ1_indexOf_4cfef 8 = .ok (.ireturn, 1) := by decide +kernel
theorem dJ1_indexOf_4cfef_9 : decode cJ1_indexOf_4cfef 9 = .ok (.iload_n 2, 1) := by decide +kernel
theorem dJ1_indexOf_4cfef_10 : decode cJ1_indexOf_4cfef 10 = .ok (.iconst 0, 1) := by decide +kernel
theorem dJ1_indexOf_4cfef_11 : decode cJ1_indexOf_4cfef 11 = .ok (.invokestatic 92, 3) := by decide +kernel
theorem dJ1_indexOf_4cfef_14 : decode cJ1_indexOf_4cfef 14 = .ok (.istore_n 2, 1) := by decide +kernel
theorem dJ1_indexOf_4cfef_15 : decode cJ1_indexOf_4cfef 15 = .ok (.iload_n 3, 1) := by decide +kernel
theorem dJ1_indexOf_4cfef_16 : decode cJ1_indexOf_4cfef 16 = .ok (.aload_n 0, 1) := by decide +kernel
theorem dJ1_indexOf_4cfef_17 : decode cJ1_indexOf_4cfef 17 = .ok (.arraylength, 1) := by decide +kernel
theorem dJ1_indexOf_4cfef_18 : decode cJ1_indexOf_4cfef 18 = .ok (.invokestatic 38, 3) := by decide +kernel
theorem dJ1_indexOf_4cfef_21 : decode cJ1_indexOf_4cfef 21 = .ok (.istore_n 3, 1) := by decide +kernel
theorem dJ1_indexOf_4cfef_22 : decode cJ1_indexOf_4cfef 22 = .ok (.iload_n 2, 1) := by decide +kernel
theorem dJ1_indexOf_4cfef_23 : decode cJ1_indexOf_4cfef 23 = .ok (.iload_n 3, 1) := by decide +kernel
theorem dJ1_indexOf_4cfef_24 : decode cJ1_indexOf_4cfef 24 = .ok (.if_icmp .lt 5, 3) := by decide +kernel
theorem dJ1_indexOf_4cfef_27 : decode cJ1_indexOf_4cfef 27 = .ok (.iconst (-1), 1) := by decide +kernel
theorem dJ1_indexOf_4cfef_28 : decode cJ1_indexOf_4cfef 28 = .ok (.ireturn, 1) := by decide +kernel
theorem dJ1_indexOf_4cfef_29 : decode cJ1_indexOf_4cfef 29 = .ok (.aload_n 0, 1) := by decide +kernel
theorem dJ1_indexOf_4cfef_30 : decode cJ1_indexOf_4cfef 30 = .ok (.iload_n 1, 1) := by decide +kernel
theorem dJ1_indexOf_4cfef_31 : decode cJ1_indexOf_4cfef 31 = .ok (.iload_n 2, 1) := by decide +kernel
theorem dJ1_indexOf_4cfef_32 : decode cJ1_indexOf_4cfef 32 = .ok (.iload_n 3, 1) := by decide +kernel
theorem dJ1_indexOf_4cfef_33 : decode cJ1_indexOf_4cfef 33 = .ok (.invokestatic 95, 3) := by decide +kernel
theorem dJ1_indexOf_4cfef_36 : decode cJ1_indexOf_4cfef 36 = .ok (.ireturn, 1) := by decide +kernel
theorem dJ1_indexOfChar_4cfef_0 : decode cJ1_indexOfChar_4cfef 0 = .ok (.iload_n 1, 1) := by decide +kernel
theorem dJ1_indexOfChar_4cfef_1 : decode cJ1_indexOfChar_4cfef 1 = .ok (.i2b, 1) := by decide +kernel
theorem dJ1_indexOfChar_4cfef_2 : decode cJ1_indexOfChar_4cfef 2 = .ok (.istore 4, 2) := by decide +kernel
theorem dJ1_indexOfChar_4cfef_4 : decode cJ1_indexOfChar_4cfef 4 = .ok (.iload_n 2, 1) := by decide +kernel
theorem dJ1_indexOfChar_4cfef_5 : decode cJ1_indexOfChar_4cfef 5 = .ok (.istore 5, 2) := by decide +kernel
theorem dJ1_indexOfChar_4cfef_7 : decode cJ1_indexOfChar_4cfef 7 = .ok (.iload 5, 2) := by decide +kernel
theorem dJ1_indexOfChar_4cfef_9 : decode cJ1_indexOfChar_4cfef 9 = .ok (.iload_n 3, 1) := by decide +kernel
theorem dJ1_indexOfChar_4cfef_10 : decode cJ1_indexOfChar_4cfef 10 = .ok (.if_icmp .ge 21, 3) := by decide +kernel
theorem dJ1_indexOfChar_4cfef_13 : decode cJ1_indexOfChar_4cfef 13 = .ok (.aload_n 0, 1) := by decide +kernel
theorem dJ1_indexOfChar_4cfef_14 : decode cJ1_indexOfChar_4cfef 14 = .ok (.iload 5, 2) := by decide +kernel
theorem dJ1_indexOfChar_4cfef_16 : decode cJ1_indexOfChar_4cfef 16 = .ok (.baload, 1) := by decide +kernel
theorem dJ1_indexOfChar_4cfef_17 : decode cJ1_indexOfChar_4cfef 17 = .ok (.iload 4, 2) := by decide +kernel
theorem dJ1_indexOfChar_4cfef_19 : decode cJ1_indexOfChar_4cfef 19 = .ok (.if_icmp .ne 6, 3) := by decide +kernel
theorem dJ1_indexOfChar_4cfef_22 : decode cJ1_indexOfChar_4cfef 22 = .ok (.iload 5, 2) := by decide +kernel
theorem dJ1_indexOfChar_4cfef_24 : decode cJ1_indexOfChar_4cfef 24 = .ok (.ireturn, 1) := by decide +kernel
theorem dJ1_indexOfChar_4cfef_25 : decode cJ1_indexOfChar_4cfef 25 = .ok (.iinc 5 1, 3) := by decide +kernel
theorem dJ1_indexOfChar_4cfef_28 : decode cJ1_indexOfChar_4cfef 28 = .ok (.goto (-21), 3) := by decide +kernel
theorem dJ1_indexOfChar_4cfef_31 : decode cJ1_indexOfChar_4cfef 31 = .ok (.iconst (-1), 1) := by decide +kernel
theorem dJ1_indexOfChar_4cfef_32 : decode cJ1_indexOfChar_4cfef 32 = .ok (.ireturn, 1) := by decide +kernel
theorem dJ2_getChar_3b067_0 : decode cJ2_getChar_3b067 0 = .ok (.getstatic 44, 3) := by decide +kernel
theorem dJ2_getChar_3b067_3 : decode cJ2_getChar_3b067 3 = .ok (.ifCond .ne 25, 3) := by decide +kernel
theorem dJ2_getChar_3b067_6 : decode cJ2_getChar_3b067 6 = .ok (.iload_n 1, 1) := by decide +kernel
theorem dJ2_getChar_3b067_7 : decode cJ2_getChar_3b067 7 = .ok (.ifCond .lt 11, 3) := by decide +kernel
theorem dJ2_getChar_3b067_10 : decode cJ2_getChar_3b067 10 = .ok (.iload_n 1, 1) := by decide +kernel
theorem dJ2_getChar_3b067_11 : decode cJ2_getChar_3b067 11 = .ok (.aload_n 0, 1) := by decide +kernel
theorem dJ2_getChar_3b067_12 : decode cJ2_getChar_3b067 12 = .ok (.invokestatic 48, 3) := by decide +kernel
theorem dJ2_getChar_3b067_15 : decode cJ2_getChar_3b067 15 = .ok (.if_icmp .lt 13, 3) := by decide +kernel
theorem dJ2_getChar_3b067_18 : decode cJ2_getChar_3b067 18 = .ok (.new 52, 3) := by decide +kernel
theorem dJ2_getChar_3b067_21 : decode cJ2_getChar_3b067 21 = .ok (.dup, 1) := by decide +kernel
theorem dJ2_getChar_3b067_22 : decode cJ2_getChar_3b067 22 = .ok (.ldc 54, 2) := by decide +kernel
theorem dJ2_getChar_3b067_24 : decode cJ2_getChar_3b067 24 = .ok (.invokespecial 56, 3) := by decide +kernel
theorem dJ2_getChar_3b067_27 : decode cJ2_getChar_3b067 27 = .ok (.athrow, 1) := by decide +kernel
theorem dJ2_getChar_3b067_28 : decode cJ2_getChar_3b067 28 = .ok (.iload_n 1, 1) := by decide +kernel
theorem dJ2_getChar_3b067_29 : decode cJ2_getChar_3b067 29 = .ok (.iconst 1, 1) := by decide +kernel
theorem dJ2_getChar_3b067_30 : decode cJ2_getChar_3b067 30 = .ok (.ishl, 1) := by decide +kernel
theorem dJ2_getChar_3b067_31 : decode cJ2_getChar_3b067 31 = .ok (.istore_n 1, 1) := by decide +kernel
theorem dJ2_getChar_3b067_32 : decode cJ2_getChar_3b067 32 = .ok (.aload_n 0, 1) := by decide +kernel
theorem dJ2_getChar_3b067_33 : decode cJ2_getChar_3b067 33 = .ok (.iload_n 1, 1) := by decide +kernel
theorem dJ2_getChar_3b067_34 : decode cJ2_getChar_3b067 34 = .ok (.iinc 1 1, 3) := by decide +kernel
theorem dJ2_getChar_3b067_37 : decode cJ2_getChar_3b067 37 = .ok (.baload, 1) := by decide +kernel
theorem dJ2_getChar_3b067_38 : decode cJ2_getChar_3b067 38 = .ok (.sipush 255, 3) := by decide +kernel
theorem dJ2_getChar_3b067_41 : decode cJ2_getChar_3b067 41 = .ok (.iand, 1) := by decide +kernel
theorem dJ2_getChar_3b067_42 : decode cJ2_getChar_3b067 42 = .ok (.getstatic 59, 3) := by decide +kernel
theorem dJ2_getChar_3b067_45 : decode cJ2_getChar_3b067 45 = .ok (.ishl, 1) := by decide +kernel
theorem dJ2_getChar_3b067_46 : decode cJ2_getChar_3b067 46 = .ok (.aload_n 0, 1) := by decide +kernel
theorem dJ2_getChar_3b067_47 : decode cJ2_getChar_3b067 47 = .ok (.iload_n 1, 1) := by decide +kernel
theorem dJ2_getChar_3b067_48 : decode cJ2_getChar_3b067 48 = .ok (.baload, 1) := by decide +kernel
theorem dJ2_getChar_3b067_49 : decode cJ2_getChar_3b067 49 = .ok (.sipush 255, 3) := by decide +kernel
theorem dJ2_getChar_3b067_52 : decode cJ2_getChar_3b067 52 = .ok (.iand, 1) := by decide +kernel
theorem dJ2_getChar_3b067_53 : decode cJ2_getChar_3b067 53 = .ok (.getstatic 63, 3) := by decide +kernel
theorem dJ2_getChar_3b067_56 : decode cJ2_getChar_3b067 56 = .ok (.ishl, 1) := by decide +kernel
theorem dJ2_getChar_3b067_57 : decode cJ2_getChar_3b067 57 = .ok (.ior, 1) := by decide +kernel
theorem dJ2_getChar_3b067_58 : decode cJ2_getChar_3b067 58 = .ok (.i2c, 1) := by decide +kernel
theorem dJ2_getChar_3b067_59 : decode cJ2_getChar_3b067 59 = .ok (.ireturn, 1) := by decide +kernel
theorem dJ2_length_9d52b_0 : decode cJ2_length_9d52b 0 = .ok (.aload_n 0, 1) := by decide +kernel
theorem dJ2_length_9d52b_1 : decode cJ2_length_9d52b 1 = .ok (.arraylength, 1) := by decide +kernel
theorem dJ2_length_9d52b_2 : decode cJ2_length_9d52b 2 = .ok (.iconst 1, 1) := by decide +kernel
theorem dJ2_length_9d52b_3 : decode cJ2_length_9d52b 3 = .ok (.ishr, 1) := by decide +kernel
theorem dJ2_length_9d52b_4 : decode cJ2_length_9d52b 4 = .ok (.ireturn, 1) := by decide +kernel
theorem dJ2_indexOf_4cfef_0 : decode cJ2_indexOf_4cfef 0 = .ok (.iload_n 2, 1) := by decide +kernel
theorem dJ2_indexOf_4cfef_1 : decode cJ2_indexOf_4cfef 1 = .ok (.iconst 0, 1) := by decide +kernel
theorem dJ2_indexOf_4cfef_2 : decode cJ2_indexOf_4cfef 2 = .ok (.invokestatic 224, 3) := by decide +kernel
theorem dJ2_indexOf_4cfef_5 : decode cJ2_indexOf_4cfef 5 = .ok (.istore_n 2, 1) := by decide +kernel
theorem dJ2_indexOf_4cfef_6 : decode cJ2_indexOf_4cfef 6 = .ok (.iload_n 3, 1) := by decide +kernel
theorem dJ2_indexOf_4cfef_7 : decode cJ2_indexOf_4cfef 7 = .ok (.aload_n 0, 1) := by decide +kernel
theorem dJ2_indexOf_4cfef_8 : decode cJ2_indexOf_4cfef 8 = .ok (.arraylength, 1) := by decide +kernel
theorem dJ2_indexOf_4cfef_9 : decode cJ2_indexOf_4cfef 9 = .ok (.iconst 1, 1) := by decide +kernel
theorem dJ2_indexOf_4cfef_10 : decode cJ2_indexOf_4cfef 10 = .ok (.ishr, 1) := by decide +kernel
theorem dJ2_indexOf_4cfef_11 : decode cJ2_indexOf_4cfef 11 = .ok (.invokestatic 183, 3) := by decide +kernel
theorem dJ2_indexOf_4cfef_14 : decode cJ2_indexOf_4cfef 14 = .ok (.istore_n 3, 1) := by decide +kernel
theorem dJ2_indexOf_4cfef_15 : decode cJ2_indexOf_4cfef 15 = .ok (.iload_n 2, 1) := by decide +kernel
theorem dJ2_indexOf_4cfef_16 : decode cJ2_indexOf_4cfef 16 = .ok (.iload_n 3, 1) := by decide +kernel
theorem dJ2_indexOf_4cfef_17 : decode cJ2_indexOf_4cfef 17 = .ok (.if_icmp .lt 5, 3) := by decide +kernel
theorem dJ2_indexOf_4cfef_20 : decode cJ2_indexOf_4cfef 20 = .ok (.iconst (-1), 1) := by decide +kernel
theorem dJ2_indexOf_4cfef_21 : decode cJ2_indexOf_4cfef 21 = .ok (.ireturn, 1) := by decide +kernel
theorem dJ2_indexOf_4cfef_22 : decode cJ2_indexOf_4cfef 22 = .ok (.iload_n 1, 1) := by decide +kernel
theorem dJ2_indexOf_4cfef_23 : decode cJ2_indexOf_4cfef 23 = .ok (.ldc 227, 2) := by decide +kernel
theorem dJ2_indexOf_4cfef_25 : decode cJ2_indexOf_4cfef 25 = .ok (.if_icmp .ge 11, 3) := by decide +kernel
theorem dJ2_indexOf_4cfef_28 : decode cJ2_indexOf_4cfef 28 = .ok (.aload_n 0, 1) := by decide +kernel
theorem dJ2_indexOf_4cfef_29 : decode cJ2_indexOf_4cfef 29 = .ok (.iload_n 1, 1) := by decide +kernel
theorem dJ2_indexOf_4cfef_30 : decode cJ2_indexOf_4cfef 30 = .ok (.iload_n 2, 1) := by decide +kernel
theorem dJ2_indexOf_4cfef_31 : decode cJ2_indexOf_4cfef 31 = .ok (.iload_n 3, 1) := by decide +kernel
theorem dJ2_indexOf_4cfef_32 : decode cJ2_indexOf_4cfef 32 = .ok (.invokestatic 228, 3) := by decide +kernel
theorem dJ2_indexOf_4cfef_35 : decode cJ2_indexOf_4cfef 35 = .ok (.ireturn, 1) := by decide +kernel
theorem dJ2_indexOf_4cfef_36 : decode cJ2_indexOf_4cfef 36 = .ok (.aload_n 0, 1) := by decide +kernel
theorem dJ2_indexOf_4cfef_37 : decode cJ2_indexOf_4cfef 37 = .ok (.iload_n 1, 1) := by decide +kernel
theorem dJ2_indexOf_4cfef_38 : decode cJ2_indexOf_4cfef 38 = .ok (.iload_n 2, 1) := by decide +kernel
theorem dJ2_indexOf_4cfef_39 : decode cJ2_indexOf_4cfef 39 = .ok (.iload_n 3, 1) := by decide +kernel
theorem dJ2_indexOf_4cfef_40 : decode cJ2_indexOf_4cfef 40 = .ok (.invokestatic 232, 3) := by decide +kernel
theorem dJ2_indexOf_4cfef_43 : decode cJ2_indexOf_4cfef 43 = .ok (.ireturn, 1) := by decide +kernel
theorem dJ2_indexOfChar_4cfef_0 : decode cJ2_indexOfChar_4cfef 0 = .ok (.iload_n 2, 1) := by decide +kernel
theorem dJ2_indexOfChar_4cfef_1 : decode cJ2_indexOfChar_4cfef 1 = .ok (.iload_n 3, 1) := by decide +kernel
theorem dJ2_indexOfChar_4cfef_2 : decode cJ2_indexOfChar_4cfef 2 = .ok (.aload_n 0, 1) := by decide +kernel
theorem dJ2_indexOfChar_4cfef_3 : decode cJ2_indexOfChar_4cfef 3 = .ok (.invokestatic 96, 3) := by decide +kernel
theorem dJ2_indexOfChar_4cfef_6 : decode cJ2_indexOfChar_4cfef 6 = .ok (.aload_n 0, 1) := by decide +kernel
theorem dJ2_indexOfChar_4cfef_7 : decode cJ2_indexOfChar_4cfef 7 = .ok (.iload_n 1, 1) := by decide +kernel
theorem dJ2_indexOfChar_4cfef_8 : decode cJ2_indexOfChar_4cfef 8 = .ok (.iload_n 2, 1) := by decide +kernel
theorem dJ2_indexOfChar_4cfef_9 : decode cJ2_indexOfChar_4cfef 9 = .ok (.iload_n 3, 1) := by decide +kernel
theorem dJ2_indexOfChar_4cfef_10 : decode cJ2_indexOfChar_4cfef 10 = .ok (.invokestatic 244, 3) := by decide +kernel
theorem dJ2_indexOfChar_4cfef_13 : decode cJ2_indexOfChar_4cfef 13 = .ok (.ireturn, 1) := by decide +kernel
theorem dJ2_indexOfCharUnsafe_4cfef_0 : decode cJ2_indexOfCharUnsafe_4cfef 0 = .ok (.iload_n 2, 1) := by decide +kernel
theorem dJ2_indexOfCharUnsafe_4cfef_1 : decode cJ2_indexOfCharUnsafe_4cfef 1 = .ok (.istore 4, 2) := by decide +kernel
theorem dJ2_indexOfCharUnsafe_4cfef_3 : decode cJ2_indexOfCharUnsafe_4cfef 3 = .ok (.iload 4, 2) := by decide +kernel
theorem dJ2_indexOfCharUnsafe_4cfef_5 : decode cJ2_indexOfCharUnsafe_4cfef 5 = .ok (.iload_n 3, 1) := by decide +kernel
theorem dJ2_indexOfCharUnsafe_4cfef_6 : decode cJ2_indexOfCharUnsafe_4cfef 6 = .ok (.if_icmp .ge 22, 3) := by decide +kernel
theorem dJ2_indexOfCharUnsafe_4cfef_9 : decode cJ2_indexOfCharUnsafe_4cfef 9 = .ok (.aload_n 0, 1) := by decide +kernel
theorem dJ2_indexOfCharUnsafe_4cfef_10 : decode cJ2_indexOfCharUnsafe_4cfef 10 = .ok (.iload 4, 2) := by decide +kernel
theorem dJ2_indexOfCharUnsafe_4cfef_12 : decode cJ2_indexOfCharUnsafe_4cfef 12 = .ok (.invokestatic 71, 3) := by decide +kernel
theorem dJ2_indexOfCharUnsafe_4cfef_15 : decode cJ2_indexOfCharUnsafe_4cfef 15 = .ok (.iload_n 1, 1) := by decide +kernel
theorem dJ2_indexOfCharUnsafe_4cfef_16 : decode cJ2_indexOfCharUnsafe_4cfef 16 = .ok (.if_icmp .ne 6, 3) := by decide +kernel
theorem dJ2_indexOfCharUnsafe_4cfef_19 : decode cJ2_indexOfCharUnsafe_4cfef 19 = .ok (.iload 4, 2) := by decide +kernel
theorem dJ2_indexOfCharUnsafe_4cfef_21 : decode cJ2_indexOfCharUnsafe_4cfef 21 = .ok (.ireturn, 1) := by decide +kernel
theorem dJ2_indexOfCharUnsafe_4cfef_22 : decode cJ2_indexOfCharUnsafe_4cfef 22 = .ok (.iinc 4 1, 3) := by decide +kernel
theorem dJ2_indexOfCharUnsafe_4cfef_25 : decode cJ2_indexOfCharUnsafe_4cfef 25 = .ok (.goto (-22), 3) := by decide +kernel
theorem dJ2_indexOfCharUnsafe_4cfef_28 : decode cJ2_indexOfCharUnsafe_4cfef 28 = .ok (.iconst (-1), 1) := by decide +kernel
theorem dJ2_indexOfCharUnsafe_4cfef_29 : decode cJ2_indexOfCharUnsafe_4cfef 29 = .ok (.ireturn, 1) := by decide +kernel
theorem dJ2_indexOfSupplementary_4cfef_0 : decode cJ2_indexOfSupplementary_4cfef 0 = .ok (.iload_n 1, 1) := by decide +kernel
theorem dJ2_indexOfSupplementary_4cfef_1 : decode cJ2_indexOfSupplementary_4cfef 1 = .ok (.invokestatic 164, 3) := by decide +kernel
theorem dJ2_indexOfSupplementary_4cfef_4 : decode cJ2_indexOfSupplementary_4cfef 4 = .ok (.ifCond .eq 65, 3) := by decide +kernel
theorem dJ2_indexOfSupplementary_4cfef_7 : decode cJ2_indexOfSupplementary_4cfef 7 = .ok (.iload_n 1, 1) := by decide +kernel
theorem dJ2_indexOfSupplementary_4cfef_8 : decode cJ2_indexOfSupplementary_4cfef 8 = .ok (.invokestatic 157, 3) := by decide +kernel
theorem dJ2_indexOfSupplementary_4cfef_11 : decode cJ2_indexOfSupplementary_4cfef 11 = .ok (.istore 4, 2) := by decide +kernel
theorem dJ2_indexOfSupplementary_4cfef_13 : decode cJ2_indexOfSupplementary_4cfef 13 = .ok (.iload_n 1, 1) := by decide +kernel
theorem dJ2_indexOfSupplementary_4cfef_14 : decode cJ2_indexOfSupplementary_4cfef 14 = .ok (.invokestatic 161, 3) := by decide +kernel
theorem dJ2_indexOfSupplementary_4cfef_17 : decode cJ2_indexOfSupplementary_4cfef 17 = .ok (.istore 5, 2) := by decide +kernel
theorem dJ2_indexOfSupplementary_4cfef_19 : decode cJ2_indexOfSupplementary_4cfef 19 = .ok (.iload_n 2, 1) := by decide +kernel
theorem dJ2_indexOfSupplementary_4cfef_20 : decode cJ2_indexOfSupplementary_4cfef 20 = .ok (.iload_n 3, 1) := by decide +kernel
theorem dJ2_indexOfSupplementary_4cfef_21 : decode cJ2_indexOfSupplementary_4cfef 21 = .ok (.aload_n 0, 1) := by decide +kernel
theorem dJ2_indexOfSupplementary_4cfef_22 : decode cJ2_indexOfSupplementary_4cfef 22 = .ok (.invokestatic 96, 3) := by decide +kernel
theorem dJ2_indexOfSupplementary_4cfef_25 : decode cJ2_indexOfSupplementary_4cfef 25 = .ok (.iload_n 2, 1) := by decide +kernel
theorem dJ2_indexOfSupplementary_4cfef_26 : decode cJ2_indexOfSupplementary_4cfef 26 = .ok (.istore 6, 2) := by decide +kernel
theorem dJ2_indexOfSupplementary_4cfef_28 : decode cJ2_indexOfSupplementary_4cfef 28 = .ok (.iload 6, 2) := by decide +kernel
theorem dJ2_indexOfSupplementary_4cfef_30 : decode cJ2_indexOfSupplementary_4cfef 30 = .ok (.iload_n 3, 1) := by decide +kernel
theorem dJ2_indexOfSupplementary_4cfef_31 : decode cJ2_indexOfSupplementary_4cfef 31 = .ok (.iconst 1, 1) := by decide +kernel
theorem dJ2_indexOfSupplementary_4cfef_32 : decode cJ2_indexOfSupplementary_4cfef 32 = .ok (.isub, 1) := by decide +kernel
theorem dJ2_indexOfSupplementary_4cfef_33 : decode cJ2_indexOfSupplementary_4cfef 33 = .ok (.if_icmp .ge 36, 3) := by decide +kernel
theorem dJ2_indexOfSupplementary_4cfef_36 : decode cJ2_indexOfSupplementary_4cfef 36 = .ok (.aload_n 0, 1) := by decide +kernel
theorem dJ2_indexOfSupplementary_4cfef_37 : decode cJ2_indexOfSupplementary_4cfef 37 = .ok (.iload 6, 2) := by decide +kernel
theorem dJ2_indexOfSupplementary_4cfef_39 : decode cJ2_indexOfSupplementary_4cfef 39 = .ok (.invokestatic 71, 3) := by decide +kernel
theorem dJ2_indexOfSupplementary_4cfef_42 : decode cJ2_indexOfSupplementary_4cfef 42 = .ok (.iload 4, 2) := by decide +kernel
theorem dJ2_indexOfSupplementary_4cfef_44 : decode cJ2_indexOfSupplementary_4cfef 44 = .ok (.if_icmp .ne 19, 3) := by decide +kernel
theorem dJ2_indexOfSupplementary_4cfef_47 : decode cJ2_indexOfSupplementary_4cfef 47 = .ok (.aload_n 0, 1) := by decide +kernel
theorem dJ2_indexOfSupplementary_4cfef_48 : decode cJ2_indexOfSupplementary_4cfef 48 = .ok (.iload 6, 2) := by decide +kernel
theorem dJ2_indexOfSupplementary_4cfef_50 : decode cJ2_indexOfSupplementary_4cfef 50 = .ok (.iconst 1, 1) := by decide +kernel
theorem dJ2_indexOfSupplementary_4cfef_51 : decode cJ2_indexOfSupplementary_4cfef 51 = .ok (.iadd, 1) := by decide +kernel
theorem dJ2_indexOfSupplementary_4cfef_52 : decode cJ2_indexOfSupplementary_4cfef 52 = .ok (.invokestatic 71, 3) := by decide +kernel
theorem dJ2_indexOfSupplementary_4cfef_55 : decode cJ2_indexOfSupplementary_4cfef 55 = .ok (.iload 5, 2) := by decide +kernel
theorem dJ2_indexOfSupplementary_4cfef_57 : decode cJ2_indexOfSupplementary_4cfef 57 = .ok (.if_icmp .ne 6, 3) := by decide +kernel
theorem dJ2_indexOfSupplementary_4cfef_60 : decode cJ2_indexOfSupplementary_4cfef 60 = .ok (.iload 6, 2) := by decide +kernel
theorem dJ2_indexOfSupplementary_4cfef_62 : decode cJ2_indexOfSupplementary_4cfef 62 = .ok (.ireturn, 1) := by decide +kernel
theorem dJ2_indexOfSupplementary_4cfef_63 : decode cJ2_indexOfSupplementary_4cfef 63 = .ok (.iinc 6 1, 3) := by decide +kernel
theorem dJ2_indexOfSupplementary_4cfef_66 : decode cJ2_indexOfSupplementary_4cfef 66 = .ok (.goto (-38), 3) := by decide +kernel
theorem dJ2_indexOfSupplementary_4cfef_69 : decode cJ2_indexOfSupplementary_4cfef 69 = .ok (.iconst (-1), 1) := by decide +kernel
theorem dJ2_indexOfSupplementary_4cfef_70 : decode cJ2_indexOfSupplementary_4cfef 70 = .ok (.ireturn, 1) := by decide +kernel
theorem dJ2_charAt_3b067_0 : decode cJ2_charAt_3b067 0 = .ok (.iload_n 1, 1) := by decide +kernel
theorem dJ2_charAt_3b067_1 : decode cJ2_charAt_3b067 1 = .ok (.aload_n 0, 1) := by decide +kernel
theorem dJ2_charAt_3b067_2 : decode cJ2_charAt_3b067 2 = .ok (.invokestatic 67, 3) := by decide +kernel
theorem dJ2_charAt_3b067_5 : decode cJ2_charAt_3b067 5 = .ok (.aload_n 0, 1) := by decide +kernel
theorem dJ2_charAt_3b067_6 : decode cJ2_charAt_3b067 6 = .ok (.iload_n 1, 1) := by decide +kernel
theorem dJ2_charAt_3b067_7 : decode cJ2_charAt_3b067 7 = .ok (.invokestatic 71, 3) := by decide +kernel
theorem dJ2_charAt_3b067_10 : decode cJ2_charAt_3b067 10 = .ok (.ireturn, 1) := by decide +kernel
theorem dJ2_checkIndex_2214a_0 : decode cJ2_checkIndex_2214a 0 = .ok (.iload_n 0, 1) := by decide +kernel
theorem dJ2_checkIndex_2214a_1 : decode cJ2_checkIndex_2214a 1 = .ok (.aload_n 1, 1) := by decide +kernel
theorem dJ2_checkIndex_2214a_2 : decode cJ2_checkIndex_2214a 2 = .ok (.invokestatic 48, 3) := by decide +kernel
theorem dJ2_checkIndex_2214a_5 : decode cJ2_checkIndex_2214a 5 = .ok (.invokestatic 414, 3) := by decide +kernel
theorem dJ2_checkIndex_2214a_8 : decode cJ2_checkIndex_2214a 8 = .ok (.return_, 1) := by decide +kernel
theorem dJ2_checkBoundsBeginEnd_d044e_0 : decode cJ2_checkBoundsBeginEnd_d044e 0 = .ok (.iload_n 0, 1) := by decide +kernel
theorem dJ2_checkBoundsBeginEnd_d044e_1 : decode cJ2_checkBoundsBeginEnd_d044e 1 = .ok (.iload_n 1, 1) := by decide +kernel
theorem dJ2_checkBoundsBeginEnd_d044e_2 : decode cJ2_checkBoundsBeginEnd_d044e 2 = .ok (.aload_n 2, 1) := by decide +kernel
theorem dJ2_checkBoundsBeginEnd_d044e_3 : decode cJ2_checkBoundsBeginEnd_d044e 3 = .ok (.invokestatic 48, 3) := by decide +kernel
theorem dJ2_checkBoundsBeginEnd_d044e_6 : decode cJ2_checkBoundsBeginEnd_d044e 6 = .ok (.invokestatic 241, 3) := by decide +kernel
theorem dJ2_checkBoundsBeginEnd_d044e_9 : decode cJ2_checkBoundsBeginEnd_d044e 9 = .ok (.return_, 1) := by decide +kernel
theorem dJ3_checkIndex_8e157_0 : decode cJ3_checkIndex_8e157 0 = .ok (.iload_n 0, 1) := by decide +kernel
theorem dJ3_checkIndex_8e157_1 : decode cJ3_checkIndex_8e157 1 = .ok (.ifCond .lt 8, 3) := by decide +kernel
theorem dJ3_checkIndex_8e157_4 : decode cJ3_checkIndex_8e157 4 = .ok (.iload_n 0, 1) := by decide +kernel
theorem dJ3_checkIndex_8e157_5 : decode cJ3_checkIndex_8e157 5 = .ok (.iload_n 1, 1) := by decide +kernel
theorem dJ3_checkIndex_8e157_6 : decode cJ3_checkIndex_8e157 6 = .ok (.if_icmp .lt 10, 3) := by decide +kernel
theorem dJ3_checkIndex_8e157_9 : decode cJ3_checkIndex_8e157 9 = .ok (.aload_n 2, 1) := by decide +kernel
theorem dJ3_checkIndex_8e157_10 : decode cJ3_checkIndex_8e157 10 = .ok (.iload_n 0, 1) := by decide +kernel
theorem dJ3_checkIndex_8e157_11 : decode cJ3_checkIndex_8e157 11 = .ok (.iload_n 1, 1) := by decide +kernel
theorem dJ3_checkIndex_8e157_12 : decode cJ3_checkIndex_8e157 12 = .ok (.invokestatic 95, 3) := by decide +kernel
