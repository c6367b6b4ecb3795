theorem dX5_make_15 : decode cX5_make 15 = .ok (.iload_n 3, 1) := by decide +kernel
theorem dX5_make_16 : decode cX5_make 16 = .ok (.aload_n 1, 1) := by decide +kernel
theorem dX5_make_17 : decode cX5_make 17 = .ok (.getfield 37, 3) := by decide +kernel
theorem dX5_make_20 : decode cX5_make 20 = .ok (.getfield 41, 3) := by decide +kernel
theorem dX5_make_23 : decode cX5_make 23 = .ok (.if_icmp .ge 90, 3) := by decide +kernel
theorem dX5_make_26 : decode cX5_make 26 = .ok (.iload_n 3, 1) := by decide +kernel
theorem dX5_make_27 : decode cX5_make 27 = .ok (.bipush 16, 2) := by decide +kernel
theorem dX5_make_29 : decode cX5_make 29 = .ok (.if_icmp .ge 84, 3) := by decide +kernel
theorem dX5_make_32 : decode cX5_make 32 = .ok (.iconst 1, 1) := by decide +kernel
theorem dX5_make_33 : decode cX5_make 33 = .ok (.aload_n 1, 1) := by decide +kernel
theorem dX5_make_34 : decode cX5_make 34 = .ok (.getfield 37, 3) := by decide +kernel
theorem dX5_make_37 : decode cX5_make 37 = .ok (.iload_n 3, 1) := by decide +kernel
theorem dX5_make_38 : decode cX5_make 38 = .ok (.iconst 1, 1) := by decide +kernel
theorem dX5_make_39 : decode cX5_make 39 = .ok (.invokevirtual 44, 3) := by decide +kernel
theorem dX5_make_42 : decode cX5_make 42 = .ok (.ishl, 1) := by decide +kernel
theorem dX5_make_43 : decode cX5_make 43 = .ok (.iconst 1, 1) := by decide +kernel
theorem dX5_make_44 : decode cX5_make 44 = .ok (.aload_n 1, 1) := by decide +kernel
theorem dX5_make_45 : decode cX5_make 45 = .ok (.getfield 37, 3) := by decide +kernel
theorem dX5_make_48 : decode cX5_make 48 = .ok (.iload_n 3, 1) := by decide +kernel
theorem dX5_make_49 : decode cX5_make 49 = .ok (.iconst 2, 1) := by decide +kernel
theorem dX5_make_50 : decode cX5_make 50 = .ok (.invokevirtual 44, 3) := by decide +kernel
theorem dX5_make_53 : decode cX5_make 53 = .ok (.ishl, 1) := by decide +kernel
theorem dX5_make_54 : decode cX5_make 54 = .ok (.ior, 1) := by decide +kernel
theorem dX5_make_55 : decode cX5_make 55 = .ok (.istore 4, 2) := by decide +kernel
theorem dX5_make_57 : decode cX5_make 57 = .ok (.iload_n 2, 1) := by decide +kernel
theorem dX5_make_58 : decode cX5_make 58 = .ok (.iload 4, 2) := by decide +kernel
theorem dX5_make_60 : decode cX5_make 60 = .ok (.iand, 1) := by decide +kernel
theorem dX5_make_61 : decode cX5_make 61 = .ok (.ifCond .ne 46, 3) := by decide +kernel
theorem dX5_make_64 : decode cX5_make 64 = .ok (.iload_n 2, 1) := by decide +kernel
theorem dX5_make_65 : decode cX5_make 65 = .ok (.iload 4, 2) := by decide +kernel
theorem dX5_make_67 : decode cX5_make 67 = .ok (.ior, 1) := by decide +kernel
theorem dX5_make_68 : decode cX5_make 68 = .ok (.istore_n 2, 1) := by decide +kernel
theorem dX5_make_69 : decode cX5_make 69 = .ok (.aload_n 0, 1) := by decide +kernel
theorem dX5_make_70 : decode cX5_make 70 = .ok (.getfield 9, 3) := by decide +kernel
theorem dX5_make_73 : decode cX5_make 73 = .ok (.aload_n 0, 1) := by decide +kernel
theorem dX5_make_74 : decode cX5_make 74 = .ok (.getfield 21, 3) := by decide +kernel
theorem dX5_make_77 : decode cX5_make 77 = .ok (.iload_n 3, 1) := by decide +kernel
theorem dX5_make_78 : decode cX5_make 78 = .ok (.iastore, 1) := by decide +kernel
theorem dX5_make_79 : decode cX5_make 79 = .ok (.aload_n 0, 1) := by decide +kernel
theorem dX5_make_80 : decode cX5_make 80 = .ok (.getfield 15, 3) := by decide +kernel
theorem dX5_make_83 : decode cX5_make 83 = .ok (.aload_n 0, 1) := by decide +kernel
theorem dX5_make_84 : decode cX5_make 84 = .ok (.getfield 21, 3) := by decide +kernel
theorem dX5_make_87 : decode cX5_make 87 = .ok (.aload_n 1, 1) := by decide +kernel
theorem dX5_make_88 : decode cX5_make 88 = .ok (.getfield 37, 3) := by decide +kernel
theorem dX5_make_91 : decode cX5_make 91 = .ok (.iload_n 3, 1) := by decide +kernel
theorem dX5_make_92 : decode cX5_make 92 = .ok (.iconst 3, 1) := by decide +kernel
theorem dX5_make_93 : decode cX5_make 93 = .ok (.invokevirtual 44, 3) := by decide +kernel
theorem dX5_make_96 : decode cX5_make 96 = .ok (.iastore, 1) := by decide +kernel
theorem dX5_make_97 : decode cX5_make 97 = .ok (.aload_n 0, 1) := by decide +kernel
theorem dX5_make_98 : decode cX5_make 98 = .ok (.dup, 1) := by decide +kernel
theorem dX5_make_99 : decode cX5_make 99 = .ok (.getfield 21, 3) := by decide +kernel
theorem dX5_make_102 : decode cX5_make 102 = .ok (.iconst 1, 1) := by decide +kernel
theorem dX5_make_103 : decode cX5_make 103 = .ok (.iadd, 1) := by decide +kernel
theorem dX5_make_104 : decode cX5_make 104 = .ok (.putfield 21, 3) := by decide +kernel
theorem dX5_make_107 : decode cX5_make 107 = .ok (.iinc 3 1, 3) := by decide +kernel
theorem dX5_make_110 : decode cX5_make 110 = .ok (.goto (-95), 3) := by decide +kernel
theorem dX5_make_113 : decode cX5_make 113 = .ok (.iconst 0, 1) := by decide +kernel
theorem dX5_make_114 : decode cX5_make 114 = .ok (.istore_n 3, 1) := by decide +kernel
theorem dX5_make_115 : decode cX5_make 115 = .ok (.iconst 0, 1) := by decide +kernel
theorem dX5_make_116 : decode cX5_make 116 = .ok (.istore 4, 2) := by decide +kernel
theorem dX5_make_118 : decode cX5_make 118 = .ok (.iload 4, 2) := by decide +kernel
theorem dX5_make_120 : decode cX5_make 120 = .ok (.aload_n 0, 1) := by decide +kernel
theorem dX5_make_121 : decode cX5_make 121 = .ok (.getfield 21, 3) := by decide +kernel
theorem dX5_make_124 : decode cX5_make 124 = .ok (.if_icmp .gt 25, 3) := by decide +kernel
theorem dX5_make_127 : decode cX5_make 127 = .ok (.iload_n 3, 1) := by decide +kernel
theorem dX5_make_128 : decode cX5_make 128 = .ok (.ifCond .ne 21, 3) := by decide +kernel
theorem dX5_make_131 : decode cX5_make 131 = .ok (.aload_n 0, 1) := by decide +kernel
theorem dX5_make_132 : decode cX5_make 132 = .ok (.iload 4, 2) := by decide +kernel
theorem dX5_make_134 : decode cX5_make 134 = .ok (.putfield 48, 3) := by decide +kernel
theorem dX5_make_137 : decode cX5_make 137 = .ok (.aload_n 0, 1) := by decide +kernel
theorem dX5_make_138 : decode cX5_make 138 = .ok (.iconst 0, 1) := by decide +kernel
theorem dX5_make_139 : decode cX5_make 139 = .ok (.invokestatic 51, 3) := by decide +kernel
theorem dX5_make_142 : decode cX5_make 142 = .ok (.istore_n 3, 1) := by decide +kernel
theorem dX5_make_143 : decode cX5_make 143 = .ok (.iinc 4 1, 3) := by decide +kernel
theorem dX5_make_146 : decode cX5_make 146 = .ok (.goto (-28), 3) := by decide +kernel
theorem dX5_make_149 : decode cX5_make 149 = .ok (.return_, 1) := by decide +kernel
theorem dX5_fits_0 : decode cX5_fits 0 = .ok (.iload_n 1, 1) := by decide +kernel
theorem dX5_fits_1 : decode cX5_fits 1 = .ok (.aload_n 0, 1) := by decide +kernel
theorem dX5_fits_2 : decode cX5_fits 2 = .ok (.getfield 21, 3) := by decide +kernel
theorem dX5_fits_5 : decode cX5_fits 5 = .ok (.if_icmp .lt 5, 3) := by decide +kernel
theorem dX5_fits_8 : decode cX5_fits 8 = .ok (.iconst 1, 1) := by decide +kernel
theorem dX5_fits_9 : decode cX5_fits 9 = .ok (.ireturn, 1) := by decide +kernel
theorem dX5_fits_10 : decode cX5_fits 10 = .ok (.iconst 0, 1) := by decide +kernel
theorem dX5_fits_11 : decode cX5_fits 11 = .ok (.istore_n 2, 1) := by decide +kernel
theorem dX5_fits_12 : decode cX5_fits 12 = .ok (.iload_n 2, 1) := by decide +kernel
theorem dX5_fits_13 : decode cX5_fits 13 = .ok (.aload_n 0, 1) := by decide +kernel
theorem dX5_fits_14 : decode cX5_fits 14 = .ok (.getfield 48, 3) := by decide +kernel
theorem dX5_fits_17 : decode cX5_fits 17 = .ok (.if_icmp .ge 37, 3) := by decide +kernel
theorem dX5_fits_20 : decode cX5_fits 20 = .ok (.aload_n 0, 1) := by decide +kernel
theorem dX5_fits_21 : decode cX5_fits 21 = .ok (.iload_n 1, 1) := by decide +kernel
theorem dX5_fits_22 : decode cX5_fits 22 = .ok (.iload_n 2, 1) := by decide +kernel
theorem dX5_fits_23 : decode cX5_fits 23 = .ok (.invokevirtual 55, 3) := by decide +kernel
theorem dX5_fits_26 : decode cX5_fits 26 = .ok (.ifCond .eq 22, 3) := by decide +kernel
theorem dX5_fits_29 : decode cX5_fits 29 = .ok (.aload_n 0, 1) := by decide +kernel
theorem dX5_fits_30 : decode cX5_fits 30 = .ok (.getfield 18, 3) := by decide +kernel
theorem dX5_fits_33 : decode cX5_fits 33 = .ok (.iload_n 1, 1) := by decide +kernel
theorem dX5_fits_34 : decode cX5_fits 34 = .ok (.iload_n 2, 1) := by decide +kernel
theorem dX5_fits_35 : decode cX5_fits 35 = .ok (.iastore, 1) := by decide +kernel
theorem dX5_fits_36 : decode cX5_fits 36 = .ok (.aload_n 0, 1) := by decide +kernel
theorem dX5_fits_37 : decode cX5_fits 37 = .ok (.iload_n 1, 1) := by decide +kernel
theorem dX5_fits_38 : decode cX5_fits 38 = .ok (.iconst 1, 1) := by decide +kernel
theorem dX5_fits_39 : decode cX5_fits 39 = .ok (.iadd, 1) := by decide +kernel
theorem dX5_fits_40 : decode cX5_fits 40 = .ok (.invokestatic 51, 3) := by decide +kernel
theorem dX5_fits_43 : decode cX5_fits 43 = .ok (.ifCond .eq 5, 3) := by decide +kernel
theorem dX5_fits_46 : decode cX5_fits 46 = .ok (.iconst 1, 1) := by decide +kernel
theorem dX5_fits_47 : decode cX5_fits 47 = .ok (.ireturn, 1) := by decide +kernel
theorem dX5_fits_48 : decode cX5_fits 48 = .ok (.iinc 2 1, 3) := by decide +kernel
theorem dX5_fits_51 : decode cX5_fits 51 = .ok (.goto (-39), 3) := by decide +kernel
theorem dX5_fits_54 : decode cX5_fits 54 = .ok (.iconst 0, 1) := by decide +kernel
theorem dX5_fits_55 : decode cX5_fits 55 = .ok (.ireturn, 1) := by decide +kernel
theorem dX5_isOpen_0 : decode cX5_isOpen 0 = .ok (.iconst 0, 1) := by decide +kernel
theorem dX5_isOpen_1 : decode cX5_isOpen 1 = .ok (.istore_n 3, 1) := by decide +kernel
theorem dX5_isOpen_2 : decode cX5_isOpen 2 = .ok (.iload_n 3, 1) := by decide +kernel
theorem dX5_isOpen_3 : decode cX5_isOpen 3 = .ok (.iload_n 1, 1) := by decide +kernel
theorem dX5_isOpen_4 : decode cX5_isOpen 4 = .ok (.if_icmp .ge 40, 3) := by decide +kernel
theorem dX5_isOpen_7 : decode cX5_isOpen 7 = .ok (.aload_n 0, 1) := by decide +kernel
theorem dX5_isOpen_8 : decode cX5_isOpen 8 = .ok (.getfield 18, 3) := by decide +kernel
theorem dX5_isOpen_11 : decode cX5_isOpen 11 = .ok (.iload_n 3, 1) := by decide +kernel
theorem dX5_isOpen_12 : decode cX5_isOpen 12 = .ok (.iaload, 1) := by decide +kernel
theorem dX5_isOpen_13 : decode cX5_isOpen 13 = .ok (.iload_n 2, 1) := by decide +kernel
theorem dX5_isOpen_14 : decode cX5_isOpen 14 = .ok (.if_icmp .ne 24, 3) := by decide +kernel
theorem dX5_isOpen_17 : decode cX5_isOpen 17 = .ok (.aload_n 0, 1) := by decide +kernel
theorem dX5_isOpen_18 : decode cX5_isOpen 18 = .ok (.getfield 15, 3) := by decide +kernel
theorem dX5_isOpen_21 : decode cX5_isOpen 21 = .ok (.iload_n 1, 1) := by decide +kernel
theorem dX5_isOpen_22 : decode cX5_isOpen 22 = .ok (.iaload, 1) := by decide +kernel
theorem dX5_isOpen_23 : decode cX5_isOpen 23 = .ok (.aload_n 0, 1) := by decide +kernel
theorem dX5_isOpen_24 : decode cX5_isOpen 24 = .ok (.getfield 15, 3) := by decide +kernel
theorem dX5_isOpen_27 : decode cX5_isOpen 27 = .ok (.iload_n 3, 1) := by decide +kernel
theorem dX5_isOpen_28 : decode cX5_isOpen 28 = .ok (.iaload, 1) := by decide +kernel
theorem dX5_isOpen_29 : decode cX5_isOpen 29 = .ok (.invokestatic 59, 3) := by decide +kernel
theorem dX5_isOpen_32 : decode cX5_isOpen 32 = .ok (.iconst 2, 1) := by decide +kernel
theorem dX5_isOpen_33 : decode cX5_isOpen 33 = .ok (.if_icmp .gt 5, 3) := by decide +kernel
theorem dX5_isOpen_36 : decode cX5_isOpen 36 = .ok (.iconst 0, 1) := by decide +kernel
theorem dX5_isOpen_37 : decode cX5_isOpen 37 = .ok (.ireturn, 1) := by decide +kernel
theorem dX5_isOpen_38 : decode cX5_isOpen 38 = .ok (.iinc 3 1, 3) := by decide +kernel
theorem dX5_isOpen_41 : decode cX5_isOpen 41 = .ok (.goto (-39), 3) := by decide +kernel
theorem dX5_isOpen_44 : decode cX5_isOpen 44 = .ok (.iconst 1, 1) := by decide +kernel
theorem dX5_isOpen_45 : decode cX5_isOpen 45 = .ok (.ireturn, 1) := by decide +kernel
theorem dX5_dayOf_0 : decode cX5_dayOf 0 = .ok (.iconst 0, 1) := by decide +kernel
theorem dX5_dayOf_1 : decode cX5_dayOf 1 = .ok (.istore_n 2, 1) := by decide +kernel
theorem dX5_dayOf_2 : decode cX5_dayOf 2 = .ok (.iload_n 2, 1) := by decide +kernel
theorem dX5_dayOf_3 : decode cX5_dayOf 3 = .ok (.aload_n 0, 1) := by decide +kernel
theorem dX5_dayOf_4 : decode cX5_dayOf 4 = .ok (.getfield 21, 3) := by decide +kernel
theorem dX5_dayOf_7 : decode cX5_dayOf 7 = .ok (.if_icmp .ge 26, 3) := by decide +kernel
theorem dX5_dayOf_10 : decode cX5_dayOf 10 = .ok (.aload_n 0, 1) := by decide +kernel
theorem dX5_dayOf_11 : decode cX5_dayOf 11 = .ok (.getfield 9, 3) := by decide +kernel
theorem dX5_dayOf_14 : decode cX5_dayOf 14 = .ok (.iload_n 2, 1) := by decide +kernel
theorem dX5_dayOf_15 : decode cX5_dayOf 15 = .ok (.iaload, 1) := by decide +kernel
theorem dX5_dayOf_16 : decode cX5_dayOf 16 = .ok (.iload_n 1, 1) := by decide +kernel
theorem dX5_dayOf_17 : decode cX5_dayOf 17 = .ok (.if_icmp .ne 10, 3) := by decide +kernel
theorem dX5_dayOf_20 : decode cX5_dayOf 20 = .ok (.aload_n 0, 1) := by decide +kernel
theorem dX5_dayOf_21 : decode cX5_dayOf 21 = .ok (.getfield 18, 3) := by decide +kernel
theorem dX5_dayOf_24 : decode cX5_dayOf 24 = .ok (.iload_n 2, 1) := by decide +kernel
theorem dX5_dayOf_25 : decode cX5_dayOf 25 = .ok (.iaload, 1) := by decide +kernel
theorem dX5_dayOf_26 : decode cX5_dayOf 26 = .ok (.ireturn, 1) := by decide +kernel
theorem dX5_dayOf_27 : decode cX5_dayOf 27 = .ok (.iinc 2 1, 3) := by decide +kernel
theorem dX5_dayOf_30 : decode cX5_dayOf 30 = .ok (.goto (-28), 3) := by decide +kernel
theorem dX5_dayOf_33 : decode cX5_dayOf 33 = .ok (.iconst (-1), 1) := by decide +kernel
theorem dX5_dayOf_34 : decode cX5_dayOf 34 = .ok (.ireturn, 1) := by decide +kernel
theorem dX6_init_0 : decode cX6_init 0 = .ok (.aload_n 0, 1) := by decide +kernel
theorem dX6_init_1 : decode cX6_init 1 = .ok (.invokespecial 3, 3) := by decide +kernel
theorem dX6_init_4 : decode cX6_init 4 = .ok (.aload_n 0, 1) := by decide +kernel
theorem dX6_init_5 : decode cX6_init 5 = .ok (.iconst 0, 1) := by decide +kernel
theorem dX6_init_6 : decode cX6_init 6 = .ok (.iload_n 1, 1) := by decide +kernel
theorem dX6_init_7 : decode cX6_init 7 = .ok (.invokestatic 9, 3) := by decide +kernel
theorem dX6_init_10 : decode cX6_init 10 = .ok (.putfield 15, 3) := by decide +kernel
theorem dX6_init_13 : decode cX6_init 13 = .ok (.aload_n 0, 1) := by decide +kernel
theorem dX6_init_14 : decode cX6_init 14 = .ok (.aload_n 0, 1) := by decide +kernel
theorem dX6_init_15 : decode cX6_init 15 = .ok (.getfield 15, 3) := by decide +kernel
theorem dX6_init_18 : decode cX6_init 18 = .ok (.iconst 4, 1) := by decide +kernel
theorem dX6_init_19 : decode cX6_init 19 = .ok (.imul, 1) := by decide +kernel
theorem dX6_init_20 : decode cX6_init 20 = .ok (.newarray .int, 2) := by decide +kernel
theorem dX6_init_22 : decode cX6_init 22 = .ok (.putfield 21, 3) := by decide +kernel
theorem dX6_init_25 : decode cX6_init 25 = .ok (.aload_n 0, 1) := by decide +kernel
theorem dX6_init_26 : decode cX6_init 26 = .ok (.iconst 0, 1) := by decide +kernel
theorem dX6_init_27 : decode cX6_init 27 = .ok (.putfield 25, 3) := by decide +kernel
theorem dX6_init_30 : decode cX6_init 30 = .ok (.return_, 1) := by decide +kernel
theorem dX6_add_0 : decode cX6_add 0 = .ok (.aload_n 0, 1) := by decide +kernel
theorem dX6_add_1 : decode cX6_add 1 = .ok (.getfield 25, 3) := by decide +kernel
theorem dX6_add_4 : decode cX6_add 4 = .ok (.aload_n 0, 1) := by decide +kernel
theorem dX6_add_5 : decode cX6_add 5 = .ok (.getfield 15, 3) := by decide +kernel
theorem dX6_add_8 : decode cX6_add 8 = .ok (.if_icmp .lt 5, 3) := by decide +kernel
theorem dX6_add_11 : decode cX6_add 11 = .ok (.iconst 0, 1) := by decide +kernel
theorem dX6_add_12 : decode cX6_add 12 = .ok (.ireturn, 1) := by decide +kernel
theorem dX6_add_13 : decode cX6_add 13 = .ok (.aload_n 0, 1) := by decide +kernel
theorem dX6_add_14 : decode cX6_add 14 = .ok (.getfield 25, 3) := by decide +kernel
theorem dX6_add_17 : decode cX6_add 17 = .ok (.iconst 4, 1) := by decide +kernel
theorem dX6_add_18 : decode cX6_add 18 = .ok (.imul, 1) := by decide +kernel
theorem dX6_add_19 : decode cX6_add 19 = .ok (.istore 5, 2) := by decide +kernel
theorem dX6_add_21 : decode cX6_add 21 = .ok (.aload_n 0, 1) := by decide +kernel
theorem dX6_add_22 : decode cX6_add 22 = .ok (.getfield 21, 3) := by decide +kernel
theorem dX6_add_25 : decode cX6_add 25 = .ok (.iload 5, 2) := by decide +kernel
theorem dX6_add_27 : decode cX6_add 27 = .ok (.iload_n 1, 1) := by decide +kernel
theorem dX6_add_28 : decode cX6_add 28 = .ok (.iastore, 1) := by decide +kernel
theorem dX6_add_29 : decode cX6_add 29 = .ok (.aload_n 0, 1) := by decide +kernel
theorem dX6_add_30 : decode cX6_add 30 = .ok (.getfield 21, 3) := by decide +kernel
theorem dX6_add_33 : decode cX6_add 33 = .ok (.iload 5, 2) := by decide +kernel
theorem dX6_add_35 : decode cX6_add 35 = .ok (.iconst 1, 1) := by decide +kernel
theorem dX6_add_36 : decode cX6_add 36 = .ok (.iadd, 1) := by decide +kernel
theorem dX6_add_37 : decode cX6_add 37 = .ok (.iload_n 2, 1) := by decide +kernel
theorem dX6_add_38 : decode cX6_add 38 = .ok (.iastore, 1) := by decide +kernel
theorem dX6_add_39 : decode cX6_add 39 = .ok (.aload_n 0, 1) := by decide +kernel
theorem dX6_add_40 : decode cX6_add 40 = .ok (.getfield 21, 3) := by decide +kernel
theorem dX6_add_43 : decode cX6_add 43 = .ok (.iload 5, 2) := by decide +kernel
theorem dX6_add_45 : decode cX6_add 45 = .ok (.iconst 2, 1) := by decide +kernel
theorem dX6_add_46 : decode cX6_add 46 = .ok (.iadd, 1) := by decide +kernel
theorem dX6_add_47 : decode cX6_add 47 = .ok (.iload_n 3, 1) := by decide +kernel
theorem dX6_add_48 : decode cX6_add 48 = .ok (.iastore, 1) := by decide +kernel
theorem dX6_add_49 : decode cX6_add 49 = .ok (.aload_n 0, 1) := by decide +kernel
theorem dX6_add_50 : decode cX6_add 50 = .ok (.getfield 21, 3) := by decide +kernel
theorem dX6_add_53 : decode cX6_add 53 = .ok (.iload 5, 2) := by decide +kernel
theorem dX6_add_55 : decode cX6_add 55 = .ok (.iconst 3, 1) := by decide +kernel
theorem dX6_add_56 : decode cX6_add 56 = .ok (.iadd, 1) := by decide +kernel
theorem dX6_add_57 : decode cX6_add 57 = .ok (.iload 4, 2) := by decide +kernel
theorem dX6_add_59 : decode cX6_add 59 = .ok (.iastore, 1) := by decide +kernel
theorem dX6_add_60 : decode cX6_add 60 = .ok (.aload_n 0, 1) := by decide +kernel
theorem dX6_add_61 : decode cX6_add 61 = .ok (.dup, 1) := by decide +kernel
theorem dX6_add_62 : decode cX6_add 62 = .ok (.getfield 25, 3) := by decide +kernel
theorem dX6_add_65 : decode cX6_add 65 = .ok (.iconst 1, 1) := by decide +kernel
theorem dX6_add_66 : decode cX6_add 66 = .ok (.iadd, 1) := by decide +kernel
theorem dX6_add_67 : decode cX6_add 67 = .ok (.putfield 25, 3) := by decide +kernel
theorem dX6_add_70 : decode cX6_add 70 = .ok (.iconst 1, 1) := by decide +kernel
theorem dX6_add_71 : decode cX6_add 71 = .ok (.ireturn, 1) := by decide +kernel
theorem dX6_cell_0 : decode cX6_cell 0 = .ok (.iload_n 1, 1) := by decide +kernel
theorem dX6_cell_1 : decode cX6_cell 1 = .ok (.ifCond .lt 20, 3) := by decide +kernel
theorem dX6_cell_4 : decode cX6_cell 4 = .ok (.iload_n 1, 1) := by decide +kernel
theorem dX6_cell_5 : decode cX6_cell 5 = .ok (.aload_n 0, 1) := by decide +kernel
theorem dX6_cell_6 : decode cX6_cell 6 = .ok (.getfield 25, 3) := by decide +kernel
theorem dX6_cell_9 : decode cX6_cell 9 = .ok (.if_icmp .ge 12, 3) := by decide +kernel
theorem dX6_cell_12 : decode cX6_cell 12 = .ok (.iload_n 2, 1) := by decide +kernel
theorem dX6_cell_13 : decode cX6_cell 13 = .ok (.ifCond .lt 8, 3) := by decide +kernel
theorem dX6_cell_16 : decode cX6_cell 16 = .ok (.iload_n 2, 1) := by decide +kernel
theorem dX6_cell_17 : decode cX6_cell 17 = .ok (.iconst 4, 1) := by decide +kernel
theorem dX6_cell_18 : decode cX6_cell 18 = .ok (.if_icmp .lt 5, 3) := by decide +kernel
theorem dX6_cell_21 : decode cX6_cell 21 = .ok (.iconst 0, 1) := by decide +kernel
theorem dX6_cell_22 : decode cX6_cell 22 = .ok (.ireturn, 1) := by decide +kernel
theorem dX6_cell_23 : decode cX6_cell 23 = .ok (.aload_n 0, 1) := by decide +kernel
theorem dX6_cell_24 : decode cX6_cell 24 = .ok (.getfield 21, 3) := by decide +kernel
theorem dX6_cell_27 : decode cX6_cell 27 = .ok (.iload_n 1, 1) := by decide +kernel
theorem dX6_cell_28 : decode cX6_cell 28 = .ok (.iconst 4, 1) := by decide +kernel
theorem dX6_cell_29 : decode cX6_cell 29 = .ok (.imul, 1) := by decide +kernel
theorem dX6_cell_30 : decode cX6_cell 30 = .ok (.iload_n 2, 1) := by decide +kernel
theorem dX6_cell_31 : decode cX6_cell 31 = .ok (.iadd, 1) := by decide +kernel
theorem dX6_cell_32 : decode cX6_cell 32 = .ok (.iaload, 1) := by decide +kernel
theorem dX6_cell_33 : decode cX6_cell 33 = .ok (.ireturn, 1) := by decide +kernel
theorem dX6_greatest_0 : decode cX6_greatest 0 = .ok (.iconst (-1), 1) := by decide +kernel
theorem dX6_greatest_1 : decode cX6_greatest 1 = .ok (.istore_n 2, 1) := by decide +kernel
theorem dX6_greatest_2 : decode cX6_greatest 2 = .ok (.iconst 0, 1) := by decide +kernel
theorem dX6_greatest_3 : decode cX6_greatest 3 = .ok (.istore_n 3, 1) := by decide +kernel
theorem dX6_greatest_4 : decode cX6_greatest 4 = .ok (.iload_n 3, 1) := by decide +kernel
theorem dX6_greatest_5 : decode cX6_greatest 5 = .ok (.aload_n 0, 1) := by decide +kernel
theorem dX6_greatest_6 : decode cX6_greatest 6 = .ok (.getfield 25, 3) := by decide +kernel
theorem dX6_greatest_9 : decode cX6_greatest 9 = .ok (.if_icmp .ge 20, 3) := by decide +kernel
theorem dX6_greatest_12 : decode cX6_greatest 12 = .ok (.iload_n 2, 1) := by decide +kernel
theorem dX6_greatest_13 : decode cX6_greatest 13 = .ok (.aload_n 0, 1) := by decide +kernel
theorem dX6_greatest_14 : decode cX6_greatest 14 = .ok (.iload_n 3, 1) := by decide +kernel
theorem dX6_greatest_15 : decode cX6_greatest 15 = .ok (.iload_n 1, 1) := by decide +kernel
theorem dX6_greatest_16 : decode cX6_greatest 16 = .ok (.invokevirtual 28, 3) := by decide +kernel
theorem dX6_greatest_19 : decode cX6_greatest 19 = .ok (.invokestatic 9, 3) := by decide +kernel
theorem dX6_greatest_22 : decode cX6_greatest 22 = .ok (.istore_n 2, 1) := by decide +kernel
theorem dX6_greatest_23 : decode cX6_greatest 23 = .ok (.iinc 3 1, 3) := by decide +kernel
theorem dX6_greatest_26 : decode cX6_greatest 26 = .ok (.goto (-22), 3) := by decide +kernel
theorem dX6_greatest_29 : decode cX6_greatest 29 = .ok (.iload_n 2, 1) := by decide +kernel
theorem dX6_greatest_30 : decode cX6_greatest 30 = .ok (.ireturn, 1) := by decide +kernel
theorem dX6_copy_0 : decode cX6_copy 0 = .ok (.aload_n 0, 1) := by decide +kernel
theorem dX6_copy_1 : decode cX6_copy 1 = .ok (.aload_n 1, 1) := by decide +kernel
theorem dX6_copy_2 : decode cX6_copy 2 = .ok (.getfield 25, 3) := by decide +kernel
theorem dX6_copy_5 : decode cX6_copy 5 = .ok (.aload_n 0, 1) := by decide +kernel
theorem dX6_copy_6 : decode cX6_copy 6 = .ok (.getfield 15, 3) := by decide +kernel
theorem dX6_copy_9 : decode cX6_copy 9 = .ok (.invokestatic 31, 3) := by decide +kernel
theorem dX6_copy_12 : decode cX6_copy 12 = .ok (.putfield 25, 3) := by decide +kernel
theorem dX6_copy_15 : decode cX6_copy 15 = .ok (.aload_n 1, 1) := by decide +kernel
theorem dX6_copy_16 : decode cX6_copy 16 = .ok (.getfield 21, 3) := by decide +kernel
theorem dX6_copy_19 : decode cX6_copy 19 = .ok (.iconst 0, 1) := by decide +kernel
theorem dX6_copy_20 : decode cX6_copy 20 = .ok (.aload_n 0, 1) := by decide +kernel
theorem dX6_copy_21 : decode cX6_copy 21 = .ok (.getfield 21, 3) := by decide +kernel
theorem dX6_copy_24 : decode cX6_copy 24 = .ok (.iconst 0, 1) := by decide +kernel
theorem dX6_copy_25 : decode cX6_copy 25 = .ok (.aload_n 0, 1) := by decide +kernel
theorem dX6_copy_26 : decode cX6_copy 26 = .ok (.getfield 25, 3) := by decide +kernel
theorem dX6_copy_29 : decode cX6_copy 29 = .ok (.iconst 4, 1) := by decide +kernel
theorem dX6_copy_30 : decode cX6_copy 30 = .ok (.imul, 1) := by decide +kernel
theorem dX6_copy_31 : decode cX6_copy 31 = .ok (.invokestatic 34, 3) := by decide +kernel
theorem dX6_copy_34 : decode cX6_copy 34 = .ok (.return_, 1) := by decide +kernel
theorem dX7_init_0 : decode cX7_init 0 = .ok (.aload_n 0, 1) := by decide +kernel
theorem dX7_init_1 : decode cX7_init 1 = .ok (.invokespecial 3, 3) := by decide +kernel
theorem dX7_init_4 : decode cX7_init 4 = .ok (.aload_n 0, 1) := by decide +kernel
theorem dX7_init_5 : decode cX7_init 5 = .ok (.sipush 400, 3) := by decide +kernel
theorem dX7_init_8 : decode cX7_init 8 = .ok (.newarray .byte, 2) := by decide +kernel
theorem dX7_init_10 : decode cX7_init 10 = .ok (.putfield 9, 3) := by decide +kernel
theorem dX7_init_13 : decode cX7_init 13 = .ok (.aload_n 0, 1) := by decide +kernel
theorem dX7_init_14 : decode cX7_init 14 = .ok (.sipush 401, 3) := by decide +kernel
theorem dX7_init_17 : decode cX7_init 17 = .ok (.newarray .int, 2) := by decide +kernel
theorem dX7_init_19 : decode cX7_init 19 = .ok (.putfield 15, 3) := by decide +kernel
theorem dX7_init_22 : decode cX7_init 22 = .ok (.aload_n 0, 1) := by decide +kernel
theorem dX7_init_23 : decode cX7_init 23 = .ok (.sipush 401, 3) := by decide +kernel
theorem dX7_init_26 : decode cX7_init 26 = .ok (.newarray .int, 2) := by decide +kernel
theorem dX7_init_28 : decode cX7_init 28 = .ok (.putfield 19, 3) := by decide +kernel
theorem dX7_init_31 : decode cX7_init 31 = .ok (.aload_n 0, 1) := by decide +kernel
theorem dX7_init_32 : decode cX7_init 32 = .ok (.sipush 401, 3) := by decide +kernel
theorem dX7_init_35 : decode cX7_init 35 = .ok (.newarray .int, 2) := by decide +kernel
theorem dX7_init_37 : decode cX7_init 37 = .ok (.putfield 22, 3) := by decide +kernel
theorem dX7_init_40 : decode cX7_init 40 = .ok (.return_, 1) := by decide +kernel
theorem dX7_put_0 : decode cX7_put 0 = .ok (.bipush 24, 2) := by decide +kernel
theorem dX7_put_2 : decode cX7_put 2 = .ok (.istore_n 2, 1) := by decide +kernel
theorem dX7_put_3 : decode cX7_put 3 = .ok (.iload_n 2, 1) := by decide +kernel
theorem dX7_put_4 : decode cX7_put 4 = .ok (.ifCond .lt 42, 3) := by decide +kernel
theorem dX7_put_7 : decode cX7_put 7 = .ok (.aload_n 0, 1) := by decide +kernel
theorem dX7_put_8 : decode cX7_put 8 = .ok (.getfield 25, 3) := by decide +kernel
theorem dX7_put_11 : decode cX7_put 11 = .ok (.sipush 400, 3) := by decide +kernel
theorem dX7_put_14 : decode cX7_put 14 = .ok (.if_icmp .ge 32, 3) := by decide +kernel
theorem dX7_put_17 : decode cX7_put 17 = .ok (.aload_n 0, 1) := by decide +kernel
theorem dX7_put_18 : decode cX7_put 18 = .ok (.getfield 9, 3) := by decide +kernel
theorem dX7_put_21 : decode cX7_put 21 = .ok (.aload_n 0, 1) := by decide +kernel
theorem dX7_put_22 : decode cX7_put 22 = .ok (.getfield 25, 3) := by decide +kernel
theorem dX7_put_25 : decode cX7_put 25 = .ok (.iload_n 1, 1) := by decide +kernel
theorem dX7_put_26 : decode cX7_put 26 = .ok (.iload_n 2, 1) := by decide +kernel
theorem dX7_put_27 : decode cX7_put 27 = .ok (.ishr, 1) := by decide +kernel
theorem dX7_put_28 : decode cX7_put 28 = .ok (.i2b, 1) := by decide +kernel
theorem dX7_put_29 : decode cX7_put 29 = .ok (.bastore, 1) := by decide +kernel
theorem dX7_put_30 : decode cX7_put 30 = .ok (.aload_n 0, 1) := by decide +kernel
theorem dX7_put_31 : decode cX7_put 31 = .ok (.dup, 1) := by decide +kernel
theorem dX7_put_32 : decode cX7_put 32 = .ok (.getfield 25, 3) := by decide +kernel
theorem dX7_put_35 : decode cX7_put 35 = .ok (.iconst 1, 1) := by decide +kernel
theorem dX7_put_36 : decode cX7_put 36 = .ok (.iadd, 1) := by decide +kernel
theorem dX7_put_37 : decode cX7_put 37 = .ok (.putfield 25, 3) := by decide +kernel
theorem dX7_put_40 : decode cX7_put 40 = .ok (.iinc 2 (-8), 3) := by decide +kernel
theorem dX7_put_43 : decode cX7_put 43 = .ok (.goto (-40), 3) := by decide +kernel
theorem dX7_put_46 : decode cX7_put 46 = .ok (.return_, 1) := by decide +kernel
theorem dX7_sign_0 : decode cX7_sign 0 = .ok (.iload_n 1, 1) := by decide +kernel
theorem dX7_sign_1 : decode cX7_sign 1 = .ok (.ifCond .lt 31, 3) := by decide +kernel
theorem dX7_sign_4 : decode cX7_sign 4 = .ok (.iload_n 1, 1) := by decide +kernel
theorem dX7_sign_5 : decode cX7_sign 5 = .ok (.aload_n 0, 1) := by decide +kernel
theorem dX7_sign_6 : decode cX7_sign 6 = .ok (.getfield 25, 3) := by decide +kernel
theorem dX7_sign_9 : decode cX7_sign 9 = .ok (.if_icmp .ge 23, 3) := by decide +kernel
theorem dX7_sign_12 : decode cX7_sign 12 = .ok (.iload_n 1, 1) := by decide +kernel
theorem dX7_sign_13 : decode cX7_sign 13 = .ok (.sipush 400, 3) := by decide +kernel
theorem dX7_sign_16 : decode cX7_sign 16 = .ok (.if_icmp .ge 16, 3) := by decide +kernel
theorem dX7_sign_19 : decode cX7_sign 19 = .ok (.aload_n 0, 1) := by decide +kernel
theorem dX7_sign_20 : decode cX7_sign 20 = .ok (.getfield 9, 3) := by decide +kernel
theorem dX7_sign_23 : decode cX7_sign 23 = .ok (.iload_n 1, 1) := by decide +kernel
theorem dX7_sign_24 : decode cX7_sign 24 = .ok (.baload, 1) := by decide +kernel
theorem dX7_sign_25 : decode cX7_sign 25 = .ok (.sipush 255, 3) := by decide +kernel
theorem dX7_sign_28 : decode cX7_sign 28 = .ok (.iand, 1) := by decide +kernel
theorem dX7_sign_29 : decode cX7_sign 29 = .ok (.goto 4, 3) := by decide +kernel
theorem dX7_sign_32 : decode cX7_sign 32 = .ok (.iconst (-1), 1) := by decide +kernel
theorem dX7_sign_33 : decode cX7_sign 33 = .ok (.ireturn, 1) := by decide +kernel
theorem dX7_isLetter_0 : decode cX7_isLetter 0 = .ok (.iload_n 0, 1) := by decide +kernel
theorem dX7_isLetter_1 : decode cX7_isLetter 1 = .ok (.bipush 97, 2) := by decide +kernel
theorem dX7_isLetter_3 : decode cX7_isLetter 3 = .ok (.if_icmp .lt 9, 3) := by decide +kernel
theorem dX7_isLetter_6 : decode cX7_isLetter 6 = .ok (.iload_n 0, 1) := by decide +kernel
theorem dX7_isLetter_7 : decode cX7_isLetter 7 = .ok (.bipush 122, 2) := by decide +kernel
theorem dX7_isLetter_9 : decode cX7_isLetter 9 = .ok (.if_icmp .le 15, 3) := by decide +kernel
theorem dX7_isLetter_12 : decode cX7_isLetter 12 = .ok (.iload_n 0, 1) := by decide +kernel
theorem dX7_isLetter_13 : decode cX7_isLetter 13 = .ok (.bipush 65, 2) := by decide +kernel
theorem dX7_isLetter_15 : decode cX7_isLetter 15 = .ok (.if_icmp .lt 13, 3) := by decide +kernel
theorem dX7_isLetter_18 : decode cX7_isLetter 18 = .ok (.iload_n 0, 1) := by decide +kernel
theorem dX7_isLetter_19 : decode cX7_isLetter 19 = .ok (.bipush 90, 2) := by decide +kernel
theorem dX7_isLetter_21 : decode cX7_isLetter 21 = .ok (.if_icmp .gt 7, 3) := by decide +kernel
theorem dX7_isLetter_24 : decode cX7_isLetter 24 = .ok (.iconst 1, 1) := by decide +kernel
theorem dX7_isLetter_25 : decode cX7_isLetter 25 = .ok (.goto 4, 3) := by decide +kernel
theorem dX7_isLetter_28 : decode cX7_isLetter 28 = .ok (.iconst 0, 1) := by decide +kernel
theorem dX7_isLetter_29 : decode cX7_isLetter 29 = .ok (.ireturn, 1) := by decide +kernel
theorem dX7_isDigit_0 : decode cX7_isDigit 0 = .ok (.iload_n 0, 1) := by decide +kernel
theorem dX7_isDigit_1 : decode cX7_isDigit 1 = .ok (.bipush 48, 2) := by decide +kernel
theorem dX7_isDigit_3 : decode cX7_isDigit 3 = .ok (.if_icmp .lt 13, 3) := by decide +kernel
theorem dX7_isDigit_6 : decode cX7_isDigit 6 = .ok (.iload_n 0, 1) := by decide +kernel
theorem dX7_isDigit_7 : decode cX7_isDigit 7 = .ok (.bipush 57, 2) := by decide +kernel
theorem dX7_isDigit_9 : decode cX7_isDigit 9 = .ok (.if_icmp .gt 7, 3) := by decide +kernel
theorem dX7_isDigit_12 : decode cX7_isDigit 12 = .ok (.iconst 1, 1) := by decide +kernel
theorem dX7_isDigit_13 : decode cX7_isDigit 13 = .ok (.goto 4, 3) := by decide +kernel
theorem dX7_isDigit_16 : decode cX7_isDigit 16 = .ok (.iconst 0, 1) := by decide +kernel
theorem dX7_isDigit_17 : decode cX7_isDigit 17 = .ok (.ireturn, 1) := by decide +kernel
theorem dX7_split_0 : decode cX7_split 0 = .ok (.iconst 0, 1) := by decide +kernel
theorem dX7_split_1 : decode cX7_split 1 = .ok (.istore_n 1, 1) := by decide +kernel
theorem dX7_split_2 : decode cX7_split 2 = .ok (.iconst 0, 1) := by decide +kernel
theorem dX7_split_3 : decode cX7_split 3 = .ok (.istore_n 3, 1) := by decide +kernel
theorem dX7_split_4 : decode cX7_split 4 = .ok (.iload_n 3, 1) := by decide +kernel
theorem dX7_split_5 : decode cX7_split 5 = .ok (.aload_n 0, 1) := by decide +kernel
theorem dX7_split_6 : decode cX7_split 6 = .ok (.getfield 25, 3) := by decide +kernel
theorem dX7_split_9 : decode cX7_split 9 = .ok (.if_icmp .ge 153, 3) := by decide +kernel
theorem dX7_split_12 : decode cX7_split 12 = .ok (.aload_n 0, 1) := by decide +kernel
theorem dX7_split_13 : decode cX7_split 13 = .ok (.iload_n 3, 1) := by decide +kernel
theorem dX7_split_14 : decode cX7_split 14 = .ok (.invokevirtual 29, 3) := by decide +kernel
theorem dX7_split_17 : decode cX7_split 17 = .ok (.istore 4, 2) := by decide +kernel
theorem dX7_split_19 : decode cX7_split 19 = .ok (.iload_n 3, 1) := by decide +kernel
theorem dX7_split_20 : decode cX7_split 20 = .ok (.iconst 1, 1) := by decide +kernel
theorem dX7_split_21 : decode cX7_split 21 = .ok (.iadd, 1) := by decide +kernel
theorem dX7_split_22 : decode cX7_split 22 = .ok (.istore_n 2, 1) := by decide +kernel
theorem dX7_split_23 : decode cX7_split 23 = .ok (.iload 4, 2) := by decide +kernel
theorem dX7_split_25 : decode cX7_split 25 = .ok (.bipush 32, 2) := by decide +kernel
theorem dX7_split_27 : decode cX7_split 27 = .ok (.if_icmp .eq 130, 3) := by decide +kernel
theorem dX7_split_30 : decode cX7_split 30 = .ok (.iload 4, 2) := by decide +kernel
theorem dX7_split_32 : decode cX7_split 32 = .ok (.bipush 10, 2) := by decide +kernel
theorem dX7_split_34 : decode cX7_split 34 = .ok (.if_icmp .ne 6, 3) := by decide +kernel
theorem dX7_split_37 : decode cX7_split 37 = .ok (.goto 120, 3) := by decide +kernel
theorem dX7_split_40 : decode cX7_split 40 = .ok (.iload 4, 2) := by decide +kernel
theorem dX7_split_42 : decode cX7_split 42 = .ok (.invokestatic 33, 3) := by decide +kernel
theorem dX7_split_45 : decode cX7_split 45 = .ok (.ifCond .eq 28, 3) := by decide +kernel
theorem dX7_split_48 : decode cX7_split 48 = .ok (.iload_n 2, 1) := by decide +kernel
theorem dX7_split_49 : decode cX7_split 49 = .ok (.aload_n 0, 1) := by decide +kernel
theorem dX7_split_50 : decode cX7_split 50 = .ok (.iload_n 3, 1) := by decide +kernel
theorem dX7_split_51 : decode cX7_split 51 = .ok (.invokevirtual 37, 3) := by decide +kernel
theorem dX7_split_54 : decode cX7_split 54 = .ok (.invokestatic 40, 3) := by decide +kernel
theorem dX7_split_57 : decode cX7_split 57 = .ok (.istore_n 2, 1) := by decide +kernel
theorem dX7_split_58 : decode cX7_split 58 = .ok (.aload_n 0, 1) := by decide +kernel
theorem dX7_split_59 : decode cX7_split 59 = .ok (.getfield 15, 3) := by decide +kernel
theorem dX7_split_62 : decode cX7_split 62 = .ok (.iload_n 1, 1) := by decide +kernel
theorem dX7_split_63 : decode cX7_split 63 = .ok (.aload_n 0, 1) := by decide +kernel
theorem dX7_split_64 : decode cX7_split 64 = .ok (.iload_n 3, 1) := by decide +kernel
theorem dX7_split_65 : decode cX7_split 65 = .ok (.iload_n 2, 1) := by decide +kernel
theorem dX7_split_66 : decode cX7_split 66 = .ok (.invokevirtual 46, 3) := by decide +kernel
theorem dX7_split_69 : decode cX7_split 69 = .ok (.iastore, 1) := by decide +kernel
theorem dX7_split_70 : decode cX7_split 70 = .ok (.goto 77, 3) := by decide +kernel
theorem dX7_split_73 : decode cX7_split 73 = .ok (.iload 4, 2) := by decide +kernel
theorem dX7_split_75 : decode cX7_split 75 = .ok (.invokestatic 49, 3) := by decide +kernel
theorem dX7_split_78 : decode cX7_split 78 = .ok (.ifCond .eq 46, 3) := by decide +kernel
theorem dX7_split_81 : decode cX7_split 81 = .ok (.iload_n 2, 1) := by decide +kernel
theorem dX7_split_82 : decode cX7_split 82 = .ok (.aload_n 0, 1) := by decide +kernel
theorem dX7_split_83 : decode cX7_split 83 = .ok (.iload_n 3, 1) := by decide +kernel
theorem dX7_split_84 : decode cX7_split 84 = .ok (.invokevirtual 52, 3) := by decide +kernel
theorem dX7_split_87 : decode cX7_split 87 = .ok (.invokestatic 40, 3) := by decide +kernel
theorem dX7_split_90 : decode cX7_split 90 = .ok (.istore_n 2, 1) := by decide +kernel
theorem dX7_split_91 : decode cX7_split 91 = .ok (.aload_n 0, 1) := by decide +kernel
theorem dX7_split_92 : decode cX7_split 92 = .ok (.getfield 15, 3) := by decide +kernel
theorem dX7_split_95 : decode cX7_split 95 = .ok (.iload_n 1, 1) := by decide +kernel
theorem dX7_split_96 : decode cX7_split 96 = .ok (.iload_n 2, 1) := by decide +kernel
theorem dX7_split_97 : decode cX7_split 97 = .ok (.iload_n 3, 1) := by decide +kernel
theorem dX7_split_98 : decode cX7_split 98 = .ok (.isub, 1) := by decide +kernel
theorem dX7_split_99 : decode cX7_split 99 = .ok (.iconst 4, 1) := by decide +kernel
theorem dX7_split_100 : decode cX7_split 100 = .ok (.if_icmp .gt 7, 3) := by decide +kernel
theorem dX7_split_103 : decode cX7_split 103 = .ok (.iconst 1, 1) := by decide +kernel
theorem dX7_split_104 : decode cX7_split 104 = .ok (.goto 4, 3) := by decide +kernel
theorem dX7_split_107 : decode cX7_split 107 = .ok (.iconst 2, 1) := by decide +kernel
theorem dX7_split_108 : decode cX7_split 108 = .ok (.iastore, 1) := by decide +kernel
theorem dX7_split_109 : decode cX7_split 109 = .ok (.aload_n 0, 1) := by decide +kernel
theorem dX7_split_110 : decode cX7_split 110 = .ok (.getfield 19, 3) := by decide +kernel
theorem dX7_split_113 : decode cX7_split 113 = .ok (.iload_n 1, 1) := by decide +kernel
theorem dX7_split_114 : decode cX7_split 114 = .ok (.aload_n 0, 1) := by decide +kernel
theorem dX7_split_115 : decode cX7_split 115 = .ok (.iload_n 3, 1) := by decide +kernel
theorem dX7_split_116 : decode cX7_split 116 = .ok (.iload_n 2, 1) := by decide +kernel
theorem dX7_split_117 : decode cX7_split 117 = .ok (.invokevirtual 55, 3) := by decide +kernel
theorem dX7_split_120 : decode cX7_split 120 = .ok (.iastore, 1) := by decide +kernel
theorem dX7_split_121 : decode cX7_split 121 = .ok (.goto 26, 3) := by decide +kernel
theorem dX7_split_124 : decode cX7_split 124 = .ok (.aload_n 0, 1) := by decide +kernel
theorem dX7_split_125 : decode cX7_split 125 = .ok (.getfield 15, 3) := by decide +kernel
theorem dX7_split_128 : decode cX7_split 128 = .ok (.iload_n 1, 1) := by decide +kernel
theorem dX7_split_129 : decode cX7_split 129 = .ok (.ldc 58, 2) := by decide +kernel
theorem dX7_split_131 : decode cX7_split 131 = .ok (.iload 4, 2) := by decide +kernel
theorem dX7_split_133 : decode cX7_split 133 = .ok (.i2c, 1) := by decide +kernel
theorem dX7_split_134 : decode cX7_split 134 = .ok (.invokevirtual 60, 3) := by decide +kernel
theorem dX7_split_137 : decode cX7_split 137 = .ok (.ifCond .lt 8, 3) := by decide +kernel
theorem dX7_split_140 : decode cX7_split 140 = .ok (.iload 4, 2) := by decide +kernel
theorem dX7_split_142 : decode cX7_split 142 = .ok (.goto 4, 3) := by decide +kernel
theorem dX7_split_145 : decode cX7_split 145 = .ok (.iconst 2, 1) := by decide +kernel
theorem dX7_split_146 : decode cX7_split 146 = .ok (.iastore, 1) := by decide +kernel
theorem dX7_split_147 : decode cX7_split 147 = .ok (.aload_n 0, 1) := by decide +kernel
theorem dX7_split_148 : decode cX7_split 148 = .ok (.getfield 22, 3) := by decide +kernel
theorem dX7_split_151 : decode cX7_split 151 = .ok (.iload_n 1, 1) := by decide +kernel
theorem dX7_split_152 : decode cX7_split 152 = .ok (.iload_n 3, 1) := by decide +kernel
theorem dX7_split_153 : decode cX7_split 153 = .ok (.iastore, 1) := by decide +kernel
theorem dX7_split_154 : decode cX7_split 154 = .ok (.iinc 1 1, 3) := by decide +kernel
theorem dX7_split_157 : decode cX7_split 157 = .ok (.iload_n 2, 1) := by decide +kernel
theorem dX7_split_158 : decode cX7_split 158 = .ok (.istore_n 3, 1) := by decide +kernel
theorem dX7_split_159 : decode cX7_split 159 = .ok (.goto (-155), 3) := by decide +kernel
theorem dX7_split_162 : decode cX7_split 162 = .ok (.aload_n 0, 1) := by decide +kernel
theorem dX7_split_163 : decode cX7_split 163 = .ok (.getfield 15, 3) := by decide +kernel
theorem dX7_split_166 : decode cX7_split 166 = .ok (.iload_n 1, 1) := by decide +kernel
theorem dX7_split_167 : decode cX7_split 167 = .ok (.iconst 0, 1) := by decide +kernel
theorem dX7_split_168 : decode cX7_split 168 = .ok (.iastore, 1) := by decide +kernel
theorem dX7_split_169 : decode cX7_split 169 = .ok (.aload_n 0, 1) := by decide +kernel
theorem dX7_split_170 : decode cX7_split 170 = .ok (.getfield 22, 3) := by decide +kernel
theorem dX7_split_173 : decode cX7_split 173 = .ok (.iload_n 1, 1) := by decide +kernel
theorem dX7_split_174 : decode cX7_split 174 = .ok (.aload_n 0, 1) := by decide +kernel
theorem dX7_split_175 : decode cX7_split 175 = .ok (.getfield 25, 3) := by decide +kernel
theorem dX7_split_178 : decode cX7_split 178 = .ok (.iastore, 1) := by decide +kernel
theorem dX7_split_179 : decode cX7_split 179 = .ok (.return_, 1) := by decide +kernel
theorem dX7_lettersEnd_0 : decode cX7_lettersEnd 0 = .ok (.iload_n 1, 1) := by decide +kernel
theorem dX7_lettersEnd_1 : decode cX7_lettersEnd 1 = .ok (.istore_n 2, 1) := by decide +kernel
theorem dX7_lettersEnd_2 : decode cX7_lettersEnd 2 = .ok (.iload_n 2, 1) := by decide +kernel
theorem dX7_lettersEnd_3 : decode cX7_lettersEnd 3 = .ok (.aload_n 0, 1) := by decide +kernel
theorem dX7_lettersEnd_4 : decode cX7_lettersEnd 4 = .ok (.getfield 25, 3) := by decide +kernel
theorem dX7_lettersEnd_7 : decode cX7_lettersEnd 7 = .ok (.if_icmp .ge 22, 3) := by decide +kernel
theorem dX7_lettersEnd_10 : decode cX7_lettersEnd 10 = .ok (.aload_n 0, 1) := by decide +kernel
theorem dX7_lettersEnd_11 : decode cX7_lettersEnd 11 = .ok (.iload_n 2, 1) := by decide +kernel
theorem dX7_lettersEnd_12 : decode cX7_lettersEnd 12 = .ok (.invokevirtual 29, 3) := by decide +kernel
theorem dX7_lettersEnd_15 : decode cX7_lettersEnd 15 = .ok (.invokestatic 33, 3) := by decide +kernel
theorem dX7_lettersEnd_18 : decode cX7_lettersEnd 18 = .ok (.ifCond .ne 5, 3) := by decide +kernel
theorem dX7_lettersEnd_21 : decode cX7_lettersEnd 21 = .ok (.iload_n 2, 1) := by decide +kernel
theorem dX7_lettersEnd_22 : decode cX7_lettersEnd 22 = .ok (.ireturn, 1) := by decide +kernel
theorem dX7_lettersEnd_23 : decode cX7_lettersEnd 23 = .ok (.iinc 2 1, 3) := by decide +kernel
theorem dX7_lettersEnd_26 : decode cX7_lettersEnd 26 = .ok (.goto (-24), 3) := by decide +kernel
theorem dX7_lettersEnd_29 : decode cX7_lettersEnd 29 = .ok (.aload_n 0, 1) := by decide +kernel
theorem dX7_lettersEnd_30 : decode cX7_lettersEnd 30 = .ok (.getfield 25, 3) := by decide +kernel
theorem dX7_lettersEnd_33 : decode cX7_lettersEnd 33 = .ok (.ireturn, 1) := by decide +kernel
theorem dX7_digitsEnd_0 : decode cX7_digitsEnd 0 = .ok (.iload_n 1, 1) := by decide +kernel
theorem dX7_digitsEnd_1 : decode cX7_digitsEnd 1 = .ok (.istore_n 2, 1) := by decide +kernel
theorem dX7_digitsEnd_2 : decode cX7_digitsEnd 2 = .ok (.iload_n 2, 1) := by decide +kernel
theorem dX7_digitsEnd_3 : decode cX7_digitsEnd 3 = .ok (.aload_n 0, 1) := by decide +kernel
theorem dX7_digitsEnd_4 : decode cX7_digitsEnd 4 = .ok (.getfield 25, 3) := by decide +kernel
theorem dX7_digitsEnd_7 : decode cX7_digitsEnd 7 = .ok (.if_icmp .ge 22, 3) := by decide +kernel
theorem dX7_digitsEnd_10 : decode cX7_digitsEnd 10 = .ok (.aload_n 0, 1) := by decide +kernel
theorem dX7_digitsEnd_11 : decode cX7_digitsEnd 11 = .ok (.iload_n 2, 1) := by decide +kernel
theorem dX7_digitsEnd_12 : decode cX7_digitsEnd 12 = .ok (.invokevirtual 29, 3) := by decide +kernel
theorem dX7_digitsEnd_15 : decode cX7_digitsEnd 15 = .ok (.invokestatic 49, 3) := by decide +kernel
theorem dX7_digitsEnd_18 : decode cX7_digitsEnd 18 = .ok (.ifCond .ne 5, 3) := by decide +kernel
theorem dX7_digitsEnd_21 : decode cX7_digitsEnd 21 = .ok (.iload_n 2, 1) := by decide +kernel
theorem dX7_digitsEnd_22 : decode cX7_digitsEnd 22 = .ok (.ireturn, 1) := by decide +kernel
theorem dX7_digitsEnd_23 : decode cX7_digitsEnd 23 = .ok (.iinc 2 1, 3) := by decide +kernel
theorem dX7_digitsEnd_26 : decode cX7_digitsEnd 26 = .ok (.goto (-24), 3) := by decide +kernel
theorem dX7_digitsEnd_29 : decode cX7_digitsEnd 29 = .ok (.aload_n 0, 1) := by decide +kernel
theorem dX7_digitsEnd_30 : decode cX7_digitsEnd 30 = .ok (.getfield 25, 3) := by decide +kernel
theorem dX7_digitsEnd_33 : decode cX7_digitsEnd 33 = .ok (.ireturn, 1) := by decide +kernel
theorem dX7_valueOf_0 : decode cX7_valueOf 0 = .ok (.iconst 0, 1) := by decide +kernel
theorem dX7_valueOf_1 : decode cX7_valueOf 1 = .ok (.istore_n 3, 1) := by decide +kernel
theorem dX7_valueOf_2 : decode cX7_valueOf 2 = .ok (.iload_n 1, 1) := by decide +kernel
theorem dX7_valueOf_3 : decode cX7_valueOf 3 = .ok (.istore 4, 2) := by decide +kernel
theorem dX7_valueOf_5 : decode cX7_valueOf 5 = .ok (.iload 4, 2) := by decide +kernel
theorem dX7_valueOf_7 : decode cX7_valueOf 7 = .ok (.iload_n 2, 1) := by decide +kernel
theorem dX7_valueOf_8 : decode cX7_valueOf 8 = .ok (.if_icmp .ge 24, 3) := by decide +kernel
theorem dX7_valueOf_11 : decode cX7_valueOf 11 = .ok (.bipush 10, 2) := by decide +kernel
theorem dX7_valueOf_13 : decode cX7_valueOf 13 = .ok (.iload_n 3, 1) := by decide +kernel
theorem dX7_valueOf_14 : decode cX7_valueOf 14 = .ok (.imul, 1) := by decide +kernel
theorem dX7_valueOf_15 : decode cX7_valueOf 15 = .ok (.aload_n 0, 1) := by decide +kernel
theorem dX7_valueOf_16 : decode cX7_valueOf 16 = .ok (.iload 4, 2) := by decide +kernel
theorem dX7_valueOf_18 : decode cX7_valueOf 18 = .ok (.invokevirtual 29, 3) := by decide +kernel
theorem dX7_valueOf_21 : decode cX7_valueOf 21 = .ok (.iadd, 1) := by decide +kernel
theorem dX7_valueOf_22 : decode cX7_valueOf 22 = .ok (.bipush 48, 2) := by decide +kernel
theorem dX7_valueOf_24 : decode cX7_valueOf 24 = .ok (.isub, 1) := by decide +kernel
theorem dX7_valueOf_25 : decode cX7_valueOf 25 = .ok (.istore_n 3, 1) := by decide +kernel
theorem dX7_valueOf_26 : decode cX7_valueOf 26 = .ok (.iinc 4 1, 3) := by decide +kernel
theorem dX7_valueOf_29 : decode cX7_valueOf 29 = .ok (.goto (-24), 3) := by decide +kernel
theorem dX7_valueOf_32 : decode cX7_valueOf 32 = .ok (.iload_n 3, 1) := by decide +kernel
theorem dX7_valueOf_33 : decode cX7_valueOf 33 = .ok (.ireturn, 1) := by decide +kernel
theorem dX7_wordOf_0 : decode cX7_wordOf 0 = .ok (.iconst 3, 1) := by decide +kernel
theorem dX7_wordOf_1 : decode cX7_wordOf 1 = .ok (.istore_n 3, 1) := by decide +kernel
theorem dX7_wordOf_2 : decode cX7_wordOf 2 = .ok (.iconst 0, 1) := by decide +kernel
theorem dX7_wordOf_3 : decode cX7_wordOf 3 = .ok (.istore 4, 2) := by decide +kernel
theorem dX7_wordOf_5 : decode cX7_wordOf 5 = .ok (.iconst 0, 1) := by decide +kernel
theorem dX7_wordOf_6 : decode cX7_wordOf 6 = .ok (.istore 5, 2) := by decide +kernel
theorem dX7_wordOf_8 : decode cX7_wordOf 8 = .ok (.iload 5, 2) := by decide +kernel
theorem dX7_wordOf_10 : decode cX7_wordOf 10 = .ok (.ldc 65, 2) := by decide +kernel
theorem dX7_wordOf_12 : decode cX7_wordOf 12 = .ok (.invokevirtual 67, 3) := by decide +kernel
theorem dX7_wordOf_15 : decode cX7_wordOf 15 = .ok (.if_icmp .ge 59, 3) := by decide +kernel
theorem dX7_wordOf_18 : decode cX7_wordOf 18 = .ok (.ldc 65, 2) := by decide +kernel
theorem dX7_wordOf_20 : decode cX7_wordOf 20 = .ok (.iload 5, 2) := by decide +kernel
theorem dX7_wordOf_22 : decode cX7_wordOf 22 = .ok (.invokevirtual 71, 3) := by decide +kernel
theorem dX7_wordOf_25 : decode cX7_wordOf 25 = .ok (.bipush 32, 2) := by decide +kernel
theorem dX7_wordOf_27 : decode cX7_wordOf 27 = .ok (.if_icmp .eq 6, 3) := by decide +kernel
theorem dX7_wordOf_30 : decode cX7_wordOf 30 = .ok (.goto 38, 3) := by decide +kernel
theorem dX7_wordOf_33 : decode cX7_wordOf 33 = .ok (.iload 5, 2) := by decide +kernel
theorem dX7_wordOf_35 : decode cX7_wordOf 35 = .ok (.iload 4, 2) := by decide +kernel
theorem dX7_wordOf_37 : decode cX7_wordOf 37 = .ok (.isub, 1) := by decide +kernel
theorem dX7_wordOf_38 : decode cX7_wordOf 38 = .ok (.iload_n 2, 1) := by decide +kernel
theorem dX7_wordOf_39 : decode cX7_wordOf 39 = .ok (.iload_n 1, 1) := by decide +kernel
theorem dX7_wordOf_40 : decode cX7_wordOf 40 = .ok (.isub, 1) := by decide +kernel
theorem dX7_wordOf_41 : decode cX7_wordOf 41 = .ok (.if_icmp .ne 18, 3) := by decide +kernel
theorem dX7_wordOf_44 : decode cX7_wordOf 44 = .ok (.aload_n 0, 1) := by decide +kernel
theorem dX7_wordOf_45 : decode cX7_wordOf 45 = .ok (.iload 4, 2) := by decide +kernel
theorem dX7_wordOf_47 : decode cX7_wordOf 47 = .ok (.iload_n 1, 1) := by decide +kernel
theorem dX7_wordOf_48 : decode cX7_wordOf 48 = .ok (.iload_n 2, 1) := by decide +kernel
theorem dX7_wordOf_49 : decode cX7_wordOf 49 = .ok (.iload_n 1, 1) := by decide +kernel
theorem dX7_wordOf_50 : decode cX7_wordOf 50 = .ok (.isub, 1) := by decide +kernel
theorem dX7_wordOf_51 : decode cX7_wordOf 51 = .ok (.invokevirtual 75, 3) := by decide +kernel
theorem dX7_wordOf_54 : decode cX7_wordOf 54 = .ok (.ifCond .eq 5, 3) := by decide +kernel
theorem dX7_wordOf_57 : decode cX7_wordOf 57 = .ok (.iload_n 3, 1) := by decide +kernel
theorem dX7_wordOf_58 : decode cX7_wordOf 58 = .ok (.ireturn, 1) := by decide +kernel
theorem dX7_wordOf_59 : decode cX7_wordOf 59 = .ok (.iinc 3 1, 3) := by decide +kernel
theorem dX7_wordOf_62 : decode cX7_wordOf 62 = .ok (.iload 5, 2) := by decide +kernel
theorem dX7_wordOf_64 : decode cX7_wordOf 64 = .ok (.iconst 1, 1) := by decide +kernel
theorem dX7_wordOf_65 : decode cX7_wordOf 65 = .ok (.iadd, 1) := by decide +kernel
theorem dX7_wordOf_66 : decode cX7_wordOf 66 = .ok (.istore 4, 2) := by decide +kernel
theorem dX7_wordOf_68 : decode cX7_wordOf 68 = .ok (.iinc 5 1, 3) := by decide +kernel
theorem dX7_wordOf_71 : decode cX7_wordOf 71 = .ok (.goto (-63), 3) := by decide +kernel
theorem dX7_wordOf_74 : decode cX7_wordOf 74 = .ok (.iconst 2, 1) := by decide +kernel
theorem dX7_wordOf_75 : decode cX7_wordOf 75 = .ok (.ireturn, 1) := by decide +kernel
theorem dX7_isSame_0 : decode cX7_isSame 0 = .ok (.iconst 0, 1) := by decide +kernel
theorem dX7_isSame_1 : decode cX7_isSame 1 = .ok (.istore 4, 2) := by decide +kernel
theorem dX7_isSame_3 : decode cX7_isSame 3 = .ok (.iload 4, 2) := by decide +kernel
theorem dX7_isSame_5 : decode cX7_isSame 5 = .ok (.iload_n 3, 1) := by decide +kernel
theorem dX7_isSame_6 : decode cX7_isSame 6 = .ok (.if_icmp .ge 43, 3) := by decide +kernel
theorem dX7_isSame_9 : decode cX7_isSame 9 = .ok (.iload_n 1, 1) := by decide +kernel
theorem dX7_isSame_10 : decode cX7_isSame 10 = .ok (.iload 4, 2) := by decide +kernel
theorem dX7_isSame_12 : decode cX7_isSame 12 = .ok (.iadd, 1) := by decide +kernel
theorem dX7_isSame_13 : decode cX7_isSame 13 = .ok (.ldc 65, 2) := by decide +kernel
theorem dX7_isSame_15 : decode cX7_isSame 15 = .ok (.invokevirtual 67, 3) := by decide +kernel
theorem dX7_isSame_18 : decode cX7_isSame 18 = .ok (.if_icmp .ge 31, 3) := by decide +kernel
theorem dX7_isSame_21 : decode cX7_isSame 21 = .ok (.ldc 65, 2) := by decide +kernel
theorem dX7_isSame_23 : decode cX7_isSame 23 = .ok (.iload_n 1, 1) := by decide +kernel
theorem dX7_isSame_24 : decode cX7_isSame 24 = .ok (.iload 4, 2) := by decide +kernel
theorem dX7_isSame_26 : decode cX7_isSame 26 = .ok (.iadd, 1) := by decide +kernel
theorem dX7_isSame_27 : decode cX7_isSame 27 = .ok (.invokevirtual 71, 3) := by decide +kernel
theorem dX7_isSame_30 : decode cX7_isSame 30 = .ok (.aload_n 0, 1) := by decide +kernel
theorem dX7_isSame_31 : decode cX7_isSame 31 = .ok (.iload_n 2, 1) := by decide +kernel
theorem dX7_isSame_32 : decode cX7_isSame 32 = .ok (.iload 4, 2) := by decide +kernel
theorem dX7_isSame_34 : decode cX7_isSame 34 = .ok (.iadd, 1) := by decide +kernel
theorem dX7_isSame_35 : decode cX7_isSame 35 = .ok (.invokevirtual 29, 3) := by decide +kernel
theorem dX7_isSame_38 : decode cX7_isSame 38 = .ok (.if_icmp .eq 5, 3) := by decide +kernel
theorem dX7_isSame_41 : decode cX7_isSame 41 = .ok (.iconst 0, 1) := by decide +kernel
theorem dX7_isSame_42 : decode cX7_isSame 42 = .ok (.ireturn, 1) := by decide +kernel
theorem dX7_isSame_43 : decode cX7_isSame 43 = .ok (.iinc 4 1, 3) := by decide +kernel
theorem dX7_isSame_46 : decode cX7_isSame 46 = .ok (.goto (-43), 3) := by decide +kernel
theorem dX7_isSame_49 : decode cX7_isSame 49 = .ok (.iconst 1, 1) := by decide +kernel
theorem dX7_isSame_50 : decode cX7_isSame 50 = .ok (.ireturn, 1) := by decide +kernel
theorem dX8_init_0 : decode cX8_init 0 = .ok (.aload_n 0, 1) := by decide +kernel
theorem dX8_init_1 : decode cX8_init 1 = .ok (.invokespecial 3, 3) := by decide +kernel
theorem dX8_init_4 : decode cX8_init 4 = .ok (.aload_n 0, 1) := by decide +kernel
theorem dX8_init_5 : decode cX8_init 5 = .ok (.bipush 112, 2) := by decide +kernel
theorem dX8_init_7 : decode cX8_init 7 = .ok (.newarray .int, 2) := by decide +kernel
theorem dX8_init_9 : decode cX8_init 9 = .ok (.putfield 9, 3) := by decide +kernel
theorem dX8_init_12 : decode cX8_init 12 = .ok (.aload_n 0, 1) := by decide +kernel
theorem dX8_init_13 : decode cX8_init 13 = .ok (.bipush 56, 2) := by decide +kernel
theorem dX8_init_15 : decode cX8_init 15 = .ok (.newarray .int, 2) := by decide +kernel
theorem dX8_init_17 : decode cX8_init 17 = .ok (.putfield 15, 3) := by decide +kernel
theorem dX8_init_20 : decode cX8_init 20 = .ok (.aload_n 0, 1) := by decide +kernel
theorem dX8_init_21 : decode cX8_init 21 = .ok (.bipush 112, 2) := by decide +kernel
theorem dX8_init_23 : decode cX8_init 23 = .ok (.newarray .int, 2) := by decide +kernel
theorem dX8_init_25 : decode cX8_init 25 = .ok (.putfield 18, 3) := by decide +kernel
theorem dX8_init_28 : decode cX8_init 28 = .ok (.aload_n 0, 1) := by decide +kernel
theorem dX8_init_29 : decode cX8_init 29 = .ok (.bipush 56, 2) := by decide +kernel
theorem dX8_init_31 : decode cX8_init 31 = .ok (.newarray .boolean, 2) := by decide +kernel
theorem dX8_init_33 : decode cX8_init 33 = .ok (.putfield 21, 3) := by decide +kernel
theorem dX8_init_36 : decode cX8_init 36 = .ok (.aload_n 0, 1) := by decide +kernel
theorem dX8_init_37 : decode cX8_init 37 = .ok (.sipush 224, 3) := by decide +kernel
theorem dX8_init_40 : decode cX8_init 40 = .ok (.newarray .boolean, 2) := by decide +kernel
theorem dX8_init_42 : decode cX8_init 42 = .ok (.putfield 25, 3) := by decide +kernel
theorem dX8_init_45 : decode cX8_init 45 = .ok (.return_, 1) := by decide +kernel
theorem dX8_fewestSteps_0 : decode cX8_fewestSteps 0 = .ok (.aload_n 1, 1) := by decide +kernel
theorem dX8_fewestSteps_1 : decode cX8_fewestSteps 1 = .ok (.iload_n 2, 1) := by decide +kernel
theorem dX8_fewestSteps_2 : decode cX8_fewestSteps 2 = .ok (.invokevirtual 28, 3) := by decide +kernel
theorem dX8_fewestSteps_5 : decode cX8_fewestSteps 5 = .ok (.ifCond .ne 11, 3) := by decide +kernel
theorem dX8_fewestSteps_8 : decode cX8_fewestSteps 8 = .ok (.aload_n 1, 1) := by decide +kernel
theorem dX8_fewestSteps_9 : decode cX8_fewestSteps 9 = .ok (.iload_n 3, 1) := by decide +kernel
theorem dX8_fewestSteps_10 : decode cX8_fewestSteps 10 = .ok (.invokevirtual 28, 3) := by decide +kernel
theorem dX8_fewestSteps_13 : decode cX8_fewestSteps 13 = .ok (.ifCond .eq 5, 3) := by decide +kernel
theorem dX8_fewestSteps_16 : decode cX8_fewestSteps 16 = .ok (.iconst (-1), 1) := by decide +kernel
theorem dX8_fewestSteps_17 : decode cX8_fewestSteps 17 = .ok (.ireturn, 1) := by decide +kernel
theorem dX8_fewestSteps_18 : decode cX8_fewestSteps 18 = .ok (.iconst 0, 1) := by decide +kernel
theorem dX8_fewestSteps_19 : decode cX8_fewestSteps 19 = .ok (.istore 4, 2) := by decide +kernel
theorem dX8_fewestSteps_21 : decode cX8_fewestSteps 21 = .ok (.iload 4, 2) := by decide +kernel
theorem dX8_fewestSteps_23 : decode cX8_fewestSteps 23 = .ok (.bipush 56, 2) := by decide +kernel
theorem dX8_fewestSteps_25 : decode cX8_fewestSteps 25 = .ok (.if_icmp .ge 17, 3) := by decide +kernel
theorem dX8_fewestSteps_28 : decode cX8_fewestSteps 28 = .ok (.aload_n 0, 1) := by decide +kernel
theorem dX8_fewestSteps_29 : decode cX8_fewestSteps 29 = .ok (.getfield 15, 3) := by decide +kernel
theorem dX8_fewestSteps_32 : decode cX8_fewestSteps 32 = .ok (.iload 4, 2) := by decide +kernel
theorem dX8_fewestSteps_34 : decode cX8_fewestSteps 34 = .ok (.iconst (-1), 1) := by decide +kernel
theorem dX8_fewestSteps_35 : decode cX8_fewestSteps 35 = .ok (.iastore, 1) := by decide +kernel
theorem dX8_fewestSteps_36 : decode cX8_fewestSteps 36 = .ok (.iinc 4 1, 3) := by decide +kernel
theorem dX8_fewestSteps_39 : decode cX8_fewestSteps 39 = .ok (.goto (-18), 3) := by decide +kernel
theorem dX8_fewestSteps_42 : decode cX8_fewestSteps 42 = .ok (.aload_n 0, 1) := by decide +kernel
theorem dX8_fewestSteps_43 : decode cX8_fewestSteps 43 = .ok (.getfield 15, 3) := by decide +kernel
theorem dX8_fewestSteps_46 : decode cX8_fewestSteps 46 = .ok (.iload_n 2, 1) := by decide +kernel
theorem dX8_fewestSteps_47 : decode cX8_fewestSteps 47 = .ok (.iconst 0, 1) := by decide +kernel
theorem dX8_fewestSteps_48 : decode cX8_fewestSteps 48 = .ok (.iastore, 1) := by decide +kernel
theorem dX8_fewestSteps_49 : decode cX8_fewestSteps 49 = .ok (.aload_n 0, 1) := by decide +kernel
theorem dX8_fewestSteps_50 : decode cX8_fewestSteps 50 = .ok (.getfield 9, 3) := by decide +kernel
theorem dX8_fewestSteps_53 : decode cX8_fewestSteps 53 = .ok (.iconst 0, 1) := by decide +kernel
theorem dX8_fewestSteps_54 : decode cX8_fewestSteps 54 = .ok (.iload_n 2, 1) := by decide +kernel
theorem dX8_fewestSteps_55 : decode cX8_fewestSteps 55 = .ok (.iastore, 1) := by decide +kernel
theorem dX8_fewestSteps_56 : decode cX8_fewestSteps 56 = .ok (.aload_n 0, 1) := by decide +kernel
theorem dX8_fewestSteps_57 : decode cX8_fewestSteps 57 = .ok (.iconst 1, 1) := by decide +kernel
theorem dX8_fewestSteps_58 : decode cX8_fewestSteps 58 = .ok (.putfield 34, 3) := by decide +kernel
theorem dX8_fewestSteps_61 : decode cX8_fewestSteps 61 = .ok (.iconst 0, 1) := by decide +kernel
theorem dX8_fewestSteps_62 : decode cX8_fewestSteps 62 = .ok (.istore 4, 2) := by decide +kernel
theorem dX8_fewestSteps_64 : decode cX8_fewestSteps 64 = .ok (.iload 4, 2) := by decide +kernel
theorem dX8_fewestSteps_66 : decode cX8_fewestSteps 66 = .ok (.aload_n 0, 1) := by decide +kernel
theorem dX8_fewestSteps_67 : decode cX8_fewestSteps 67 = .ok (.getfield 34, 3) := by decide +kernel
theorem dX8_fewestSteps_70 : decode cX8_fewestSteps 70 = .ok (.if_icmp .ge 116, 3) := by decide +kernel
theorem dX8_fewestSteps_73 : decode cX8_fewestSteps 73 = .ok (.aload_n 0, 1) := by decide +kernel
theorem dX8_fewestSteps_74 : decode cX8_fewestSteps 74 = .ok (.getfield 15, 3) := by decide +kernel
theorem dX8_fewestSteps_77 : decode cX8_fewestSteps 77 = .ok (.iload_n 3, 1) := by decide +kernel
theorem dX8_fewestSteps_78 : decode cX8_fewestSteps 78 = .ok (.iaload, 1) := by decide +kernel
theorem dX8_fewestSteps_79 : decode cX8_fewestSteps 79 = .ok (.iconst (-1), 1) := by decide +kernel
theorem dX8_fewestSteps_80 : decode cX8_fewestSteps 80 = .ok (.if_icmp .ne 106, 3) := by decide +kernel
theorem dX8_fewestSteps_83 : decode cX8_fewestSteps 83 = .ok (.aload_n 0, 1) := by decide +kernel
theorem dX8_fewestSteps_84 : decode cX8_fewestSteps 84 = .ok (.getfield 9, 3) := by decide +kernel
theorem dX8_fewestSteps_87 : decode cX8_fewestSteps 87 = .ok (.iload 4, 2) := by decide +kernel
theorem dX8_fewestSteps_89 : decode cX8_fewestSteps 89 = .ok (.iaload, 1) := by decide +kernel
theorem dX8_fewestSteps_90 : decode cX8_fewestSteps 90 = .ok (.istore 5, 2) := by decide +kernel
theorem dX8_fewestSteps_92 : decode cX8_fewestSteps 92 = .ok (.iconst 0, 1) := by decide +kernel
theorem dX8_fewestSteps_93 : decode cX8_fewestSteps 93 = .ok (.istore 6, 2) := by decide +kernel
theorem dX8_fewestSteps_95 : decode cX8_fewestSteps 95 = .ok (.iload 6, 2) := by decide +kernel
theorem dX8_fewestSteps_97 : decode cX8_fewestSteps 97 = .ok (.iconst 4, 1) := by decide +kernel
theorem dX8_fewestSteps_98 : decode cX8_fewestSteps 98 = .ok (.if_icmp .ge 82, 3) := by decide +kernel
theorem dX8_fewestSteps_101 : decode cX8_fewestSteps 101 = .ok (.aload_n 1, 1) := by decide +kernel
theorem dX8_fewestSteps_102 : decode cX8_fewestSteps 102 = .ok (.iload 5, 2) := by decide +kernel
theorem dX8_fewestSteps_104 : decode cX8_fewestSteps 104 = .ok (.iload 6, 2) := by decide +kernel
theorem dX8_fewestSteps_106 : decode cX8_fewestSteps 106 = .ok (.invokevirtual 38, 3) := by decide +kernel
theorem dX8_fewestSteps_109 : decode cX8_fewestSteps 109 = .ok (.istore 7, 2) := by decide +kernel
theorem dX8_fewestSteps_111 : decode cX8_fewestSteps 111 = .ok (.iload 7, 2) := by decide +kernel
theorem dX8_fewestSteps_113 : decode cX8_fewestSteps 113 = .ok (.iconst (-1), 1) := by decide +kernel
theorem dX8_fewestSteps_114 : decode cX8_fewestSteps 114 = .ok (.if_icmp .eq 60, 3) := by decide +kernel
theorem dX8_fewestSteps_117 : decode cX8_fewestSteps 117 = .ok (.aload_n 0, 1) := by decide +kernel
theorem dX8_fewestSteps_118 : decode cX8_fewestSteps 118 = .ok (.getfield 15, 3) := by decide +kernel
theorem dX8_fewestSteps_121 : decode cX8_fewestSteps 121 = .ok (.iload 7, 2) := by decide +kernel
theorem dX8_fewestSteps_123 : decode cX8_fewestSteps 123 = .ok (.iaload, 1) := by decide +kernel
theorem dX8_fewestSteps_124 : decode cX8_fewestSteps 124 = .ok (.iconst (-1), 1) := by decide +kernel
theorem dX8_fewestSteps_125 : decode cX8_fewestSteps 125 = .ok (.if_icmp .ne 49, 3) := by decide +kernel
theorem dX8_fewestSteps_128 : decode cX8_fewestSteps 128 = .ok (.aload_n 1, 1) := by decide +kernel
theorem dX8_fewestSteps_129 : decode cX8_fewestSteps 129 = .ok (.iload 7, 2) := by decide +kernel
theorem dX8_fewestSteps_131 : decode cX8_fewestSteps 131 = .ok (.invokevirtual 28, 3) := by decide +kernel
theorem dX8_fewestSteps_134 : decode cX8_fewestSteps 134 = .ok (.ifCond .ne 40, 3) := by decide +kernel
theorem dX8_fewestSteps_137 : decode cX8_fewestSteps 137 = .ok (.aload_n 0, 1) := by decide +kernel
theorem dX8_fewestSteps_138 : decode cX8_fewestSteps 138 = .ok (.getfield 15, 3) := by decide +kernel
theorem dX8_fewestSteps_141 : decode cX8_fewestSteps 141 = .ok (.iload 7, 2) := by decide +kernel
theorem dX8_fewestSteps_143 : decode cX8_fewestSteps 143 = .ok (.aload_n 0, 1) := by decide +kernel
theorem dX8_fewestSteps_144 : decode cX8_fewestSteps 144 = .ok (.getfield 15, 3) := by decide +kernel
theorem dX8_fewestSteps_147 : decode cX8_fewestSteps 147 = .ok (.iload 5, 2) := by decide +kernel
theorem dX8_fewestSteps_149 : decode cX8_fewestSteps 149 = .ok (.iaload, 1) := by decide +kernel
theorem dX8_fewestSteps_150 : decode cX8_fewestSteps 150 = .ok (.iconst 1, 1) := by decide +kernel
theorem dX8_fewestSteps_151 : decode cX8_fewestSteps 151 = .ok (.iadd, 1) := by decide +kernel
theorem dX8_fewestSteps_152 : decode cX8_fewestSteps 152 = .ok (.iastore, 1) := by decide +kernel
theorem dX8_fewestSteps_153 : decode cX8_fewestSteps 153 = .ok (.aload_n 0, 1) := by decide +kernel
theorem dX8_fewestSteps_154 : decode cX8_fewestSteps 154 = .ok (.getfield 9, 3) := by decide +kernel
theorem dX8_fewestSteps_157 : decode cX8_fewestSteps 157 = .ok (.aload_n 0, 1) := by decide +kernel
theorem dX8_fewestSteps_158 : decode cX8_fewestSteps 158 = .ok (.getfield 34, 3) := by decide +kernel
theorem dX8_fewestSteps_161 : decode cX8_fewestSteps 161 = .ok (.iload 7, 2) := by decide +kernel
theorem dX8_fewestSteps_163 : decode cX8_fewestSteps 163 = .ok (.iastore, 1) := by decide +kernel
theorem dX8_fewestSteps_164 : decode cX8_fewestSteps 164 = .ok (.aload_n 0, 1) := by decide +kernel
theorem dX8_fewestSteps_165 : decode cX8_fewestSteps 165 = .ok (.dup, 1) := by decide +kernel
theorem dX8_fewestSteps_166 : decode cX8_fewestSteps 166 = .ok (.getfield 34, 3) := by decide +kernel
theorem dX8_fewestSteps_169 : decode cX8_fewestSteps 169 = .ok (.iconst 1, 1) := by decide +kernel
theorem dX8_fewestSteps_170 : decode cX8_fewestSteps 170 = .ok (.iadd, 1) := by decide +kernel
theorem dX8_fewestSteps_171 : decode cX8_fewestSteps 171 = .ok (.putfield 34, 3) := by decide +kernel
theorem dX8_fewestSteps_174 : decode cX8_fewestSteps 174 = .ok (.iinc 6 1, 3) := by decide +kernel
theorem dX8_fewestSteps_177 : decode cX8_fewestSteps 177 = .ok (.goto (-82), 3) := by decide +kernel
theorem dX8_fewestSteps_180 : decode cX8_fewestSteps 180 = .ok (.iinc 4 1, 3) := by decide +kernel
theorem dX8_fewestSteps_183 : decode cX8_fewestSteps 183 = .ok (.goto (-119), 3) := by decide +kernel
theorem dX8_fewestSteps_186 : decode cX8_fewestSteps 186 = .ok (.aload_n 0, 1) := by decide +kernel
theorem dX8_fewestSteps_187 : decode cX8_fewestSteps 187 = .ok (.getfield 15, 3) := by decide +kernel
theorem dX8_fewestSteps_190 : decode cX8_fewestSteps 190 = .ok (.iload_n 3, 1) := by decide +kernel
theorem dX8_fewestSteps_191 : decode cX8_fewestSteps 191 = .ok (.iaload, 1) := by decide +kernel
theorem dX8_fewestSteps_192 : decode cX8_fewestSteps 192 = .ok (.ireturn, 1) := by decide +kernel
theorem dX8_fewestToCut_0 : decode cX8_fewestToCut 0 = .ok (.iconst 0, 1) := by decide +kernel
theorem dX8_fewestToCut_1 : decode cX8_fewestToCut 1 = .ok (.istore 4, 2) := by decide +kernel
theorem dX8_fewestToCut_3 : decode cX8_fewestToCut 3 = .ok (.iload 4, 2) := by decide +kernel
theorem dX8_fewestToCut_5 : decode cX8_fewestToCut 5 = .ok (.bipush 56, 2) := by decide +kernel
theorem dX8_fewestToCut_7 : decode cX8_fewestToCut 7 = .ok (.if_icmp .ge 45, 3) := by decide +kernel
theorem dX8_fewestToCut_10 : decode cX8_fewestToCut 10 = .ok (.aload_n 0, 1) := by decide +kernel
theorem dX8_fewestToCut_11 : decode cX8_fewestToCut 11 = .ok (.getfield 21, 3) := by decide +kernel
theorem dX8_fewestToCut_14 : decode cX8_fewestToCut 14 = .ok (.iload 4, 2) := by decide +kernel
theorem dX8_fewestToCut_16 : decode cX8_fewestToCut 16 = .ok (.iconst 0, 1) := by decide +kernel
theorem dX8_fewestToCut_17 : decode cX8_fewestToCut 17 = .ok (.bastore, 1) := by decide +kernel
theorem dX8_fewestToCut_18 : decode cX8_fewestToCut 18 = .ok (.iconst 0, 1) := by decide +kernel
theorem dX8_fewestToCut_19 : decode cX8_fewestToCut 19 = .ok (.istore 5, 2) := by decide +kernel
theorem dX8_fewestToCut_21 : decode cX8_fewestToCut 21 = .ok (.iload 5, 2) := by decide +kernel
theorem dX8_fewestToCut_23 : decode cX8_fewestToCut 23 = .ok (.iconst 4, 1) := by decide +kernel
theorem dX8_fewestToCut_24 : decode cX8_fewestToCut 24 = .ok (.if_icmp .ge 22, 3) := by decide +kernel
theorem dX8_fewestToCut_27 : decode cX8_fewestToCut 27 = .ok (.aload_n 0, 1) := by decide +kernel
theorem dX8_fewestToCut_28 : decode cX8_fewestToCut 28 = .ok (.getfield 25, 3) := by decide +kernel
theorem dX8_fewestToCut_31 : decode cX8_fewestToCut 31 = .ok (.iconst 4, 1) := by decide +kernel
theorem dX8_fewestToCut_32 : decode cX8_fewestToCut 32 = .ok (.iload 4, 2) := by decide +kernel
theorem dX8_fewestToCut_34 : decode cX8_fewestToCut 34 = .ok (.imul, 1) := by decide +kernel
theorem dX8_fewestToCut_35 : decode cX8_fewestToCut 35 = .ok (.iload 5, 2) := by decide +kernel
theorem dX8_fewestToCut_37 : decode cX8_fewestToCut 37 = .ok (.iadd, 1) := by decide +kernel
theorem dX8_fewestToCut_38 : decode cX8_fewestToCut 38 = .ok (.iconst 0, 1) := by decide +kernel
theorem dX8_fewestToCut_39 : decode cX8_fewestToCut 39 = .ok (.bastore, 1) := by decide +kernel
theorem dX8_fewestToCut_40 : decode cX8_fewestToCut 40 = .ok (.iinc 5 1, 3) := by decide +kernel
theorem dX8_fewestToCut_43 : decode cX8_fewestToCut 43 = .ok (.goto (-22), 3) := by decide +kernel
theorem dX8_fewestToCut_46 : decode cX8_fewestToCut 46 = .ok (.iinc 4 1, 3) := by decide +kernel
theorem dX8_fewestToCut_49 : decode cX8_fewestToCut 49 = .ok (.goto (-46), 3) := by decide +kernel
theorem dX8_fewestToCut_52 : decode cX8_fewestToCut 52 = .ok (.iconst 0, 1) := by decide +kernel
theorem dX8_fewestToCut_53 : decode cX8_fewestToCut 53 = .ok (.istore 4, 2) := by decide +kernel
theorem dX8_fewestToCut_55 : decode cX8_fewestToCut 55 = .ok (.iload 4, 2) := by decide +kernel
theorem dX8_fewestToCut_57 : decode cX8_fewestToCut 57 = .ok (.iconst 4, 1) := by decide +kernel
theorem dX8_fewestToCut_58 : decode cX8_fewestToCut 58 = .ok (.if_icmp .ge 28, 3) := by decide +kernel
theorem dX8_fewestToCut_61 : decode cX8_fewestToCut 61 = .ok (.aload_n 0, 1) := by decide +kernel
theorem dX8_fewestToCut_62 : decode cX8_fewestToCut 62 = .ok (.aload_n 1, 1) := by decide +kernel
theorem dX8_fewestToCut_63 : decode cX8_fewestToCut 63 = .ok (.iload_n 2, 1) := by decide +kernel
theorem dX8_fewestToCut_64 : decode cX8_fewestToCut 64 = .ok (.iload_n 3, 1) := by decide +kernel
theorem dX8_fewestToCut_65 : decode cX8_fewestToCut 65 = .ok (.invokevirtual 42, 3) := by decide +kernel
theorem dX8_fewestToCut_68 : decode cX8_fewestToCut 68 = .ok (.ifCond .ne 6, 3) := by decide +kernel
theorem dX8_fewestToCut_71 : decode cX8_fewestToCut 71 = .ok (.iload 4, 2) := by decide +kernel
theorem dX8_fewestToCut_73 : decode cX8_fewestToCut 73 = .ok (.ireturn, 1) := by decide +kernel
theorem dX8_fewestToCut_74 : decode cX8_fewestToCut 74 = .ok (.aload_n 0, 1) := by decide +kernel
theorem dX8_fewestToCut_75 : decode cX8_fewestToCut 75 = .ok (.iload_n 2, 1) := by decide +kernel
theorem dX8_fewestToCut_76 : decode cX8_fewestToCut 76 = .ok (.iload_n 3, 1) := by decide +kernel
theorem dX8_fewestToCut_77 : decode cX8_fewestToCut 77 = .ok (.invokevirtual 46, 3) := by decide +kernel
theorem dX8_fewestToCut_80 : decode cX8_fewestToCut 80 = .ok (.iinc 4 1, 3) := by decide +kernel
theorem dX8_fewestToCut_83 : decode cX8_fewestToCut 83 = .ok (.goto (-28), 3) := by decide +kernel
theorem dX8_fewestToCut_86 : decode cX8_fewestToCut 86 = .ok (.iconst 4, 1) := by decide +kernel
theorem dX8_fewestToCut_87 : decode cX8_fewestToCut 87 = .ok (.ireturn, 1) := by decide +kernel
theorem dX8_search_0 : decode cX8_search 0 = .ok (.iconst 0, 1) := by decide +kernel
theorem dX8_search_1 : decode cX8_search 1 = .ok (.istore 4, 2) := by decide +kernel
theorem dX8_search_3 : decode cX8_search 3 = .ok (.iload 4, 2) := by decide +kernel
theorem dX8_search_5 : decode cX8_search 5 = .ok (.bipush 112, 2) := by decide +kernel
theorem dX8_search_7 : decode cX8_search 7 = .ok (.if_icmp .ge 17, 3) := by decide +kernel
theorem dX8_search_10 : decode cX8_search 10 = .ok (.aload_n 0, 1) := by decide +kernel
theorem dX8_search_11 : decode cX8_search 11 = .ok (.getfield 18, 3) := by decide +kernel
theorem dX8_search_14 : decode cX8_search 14 = .ok (.iload 4, 2) := by decide +kernel
theorem dX8_search_16 : decode cX8_search 16 = .ok (.iconst (-1), 1) := by decide +kernel
theorem dX8_search_17 : decode cX8_search 17 = .ok (.iastore, 1) := by decide +kernel
theorem dX8_search_18 : decode cX8_search 18 = .ok (.iinc 4 1, 3) := by decide +kernel
theorem dX8_search_21 : decode cX8_search 21 = .ok (.goto (-18), 3) := by decide +kernel
theorem dX8_search_24 : decode cX8_search 24 = .ok (.iconst 2, 1) := by decide +kernel
theorem dX8_search_25 : decode cX8_search 25 = .ok (.iload_n 2, 1) := by decide +kernel
theorem dX8_search_26 : decode cX8_search 26 = .ok (.imul, 1) := by decide +kernel
theorem dX8_search_27 : decode cX8_search 27 = .ok (.iconst 1, 1) := by decide +kernel
theorem dX8_search_28 : decode cX8_search 28 = .ok (.iadd, 1) := by decide +kernel
theorem dX8_search_29 : decode cX8_search 29 = .ok (.istore 4, 2) := by decide +kernel
theorem dX8_search_31 : decode cX8_search 31 = .ok (.aload_n 0, 1) := by decide +kernel
theorem dX8_search_32 : decode cX8_search 32 = .ok (.getfield 18, 3) := by decide +kernel
theorem dX8_search_35 : decode cX8_search 35 = .ok (.iload 4, 2) := by decide +kernel
theorem dX8_search_37 : decode cX8_search 37 = .ok (.iload 4, 2) := by decide +kernel
theorem dX8_search_39 : decode cX8_search 39 = .ok (.iastore, 1) := by decide +kernel
theorem dX8_search_40 : decode cX8_search 40 = .ok (.aload_n 0, 1) := by decide +kernel
theorem dX8_search_41 : decode cX8_search 41 = .ok (.getfield 18, 3) := by decide +kernel
theorem dX8_search_44 : decode cX8_search 44 = .ok (.iconst 2, 1) := by decide +kernel
theorem dX8_search_45 : decode cX8_search 45 = .ok (.iload_n 2, 1) := by decide +kernel
theorem dX8_search_46 : decode cX8_search 46 = .ok (.imul, 1) := by decide +kernel
theorem dX8_search_47 : decode cX8_search 47 = .ok (.iload 4, 2) := by decide +kernel
theorem dX8_search_49 : decode cX8_search 49 = .ok (.iastore, 1) := by decide +kernel
theorem dX8_search_50 : decode cX8_search 50 = .ok (.aload_n 0, 1) := by decide +kernel
theorem dX8_search_51 : decode cX8_search 51 = .ok (.getfield 9, 3) := by decide +kernel
theorem dX8_search_54 : decode cX8_search 54 = .ok (.iconst 0, 1) := by decide +kernel
theorem dX8_search_55 : decode cX8_search 55 = .ok (.iload 4, 2) := by decide +kernel
theorem dX8_search_57 : decode cX8_search 57 = .ok (.iastore, 1) := by decide +kernel
theorem dX8_search_58 : decode cX8_search 58 = .ok (.aload_n 0, 1) := by decide +kernel
theorem dX8_search_59 : decode cX8_search 59 = .ok (.iconst 1, 1) := by decide +kernel
theorem dX8_search_60 : decode cX8_search 60 = .ok (.putfield 34, 3) := by decide +kernel
theorem dX8_search_63 : decode cX8_search 63 = .ok (.iconst 0, 1) := by decide +kernel
theorem dX8_search_64 : decode cX8_search 64 = .ok (.istore 5, 2) := by decide +kernel
theorem dX8_search_66 : decode cX8_search 66 = .ok (.iload 5, 2) := by decide +kernel
theorem dX8_search_68 : decode cX8_search 68 = .ok (.aload_n 0, 1) := by decide +kernel
theorem dX8_search_69 : decode cX8_search 69 = .ok (.getfield 34, 3) := by decide +kernel
theorem dX8_search_72 : decode cX8_search 72 = .ok (.if_icmp .ge 182, 3) := by decide +kernel
theorem dX8_search_75 : decode cX8_search 75 = .ok (.aload_n 0, 1) := by decide +kernel
theorem dX8_search_76 : decode cX8_search 76 = .ok (.getfield 18, 3) := by decide +kernel
theorem dX8_search_79 : decode cX8_search 79 = .ok (.iconst 2, 1) := by decide +kernel
theorem dX8_search_80 : decode cX8_search 80 = .ok (.iload_n 3, 1) := by decide +kernel
theorem dX8_search_81 : decode cX8_search 81 = .ok (.imul, 1) := by decide +kernel
theorem dX8_search_82 : decode cX8_search 82 = .ok (.iaload, 1) := by decide +kernel
theorem dX8_search_83 : decode cX8_search 83 = .ok (.iconst (-1), 1) := by decide +kernel
theorem dX8_search_84 : decode cX8_search 84 = .ok (.if_icmp .ne 170, 3) := by decide +kernel
theorem dX8_search_87 : decode cX8_search 87 = .ok (.aload_n 0, 1) := by decide +kernel
theorem dX8_search_88 : decode cX8_search 88 = .ok (.getfield 9, 3) := by decide +kernel
theorem dX8_search_91 : decode cX8_search 91 = .ok (.iload 5, 2) := by decide +kernel
theorem dX8_search_93 : decode cX8_search 93 = .ok (.iaload, 1) := by decide +kernel
theorem dX8_search_94 : decode cX8_search 94 = .ok (.istore 6, 2) := by decide +kernel
theorem dX8_search_96 : decode cX8_search 96 = .ok (.iload 6, 2) := by decide +kernel
theorem dX8_search_98 : decode cX8_search 98 = .ok (.iconst 1, 1) := by decide +kernel
theorem dX8_search_99 : decode cX8_search 99 = .ok (.ishr, 1) := by decide +kernel
theorem dX8_search_100 : decode cX8_search 100 = .ok (.istore 7, 2) := by decide +kernel
theorem dX8_search_102 : decode cX8_search 102 = .ok (.iload 6, 2) := by decide +kernel
theorem dX8_search_104 : decode cX8_search 104 = .ok (.iconst 1, 1) := by decide +kernel
theorem dX8_search_105 : decode cX8_search 105 = .ok (.iand, 1) := by decide +kernel
theorem dX8_search_106 : decode cX8_search 106 = .ok (.iconst 1, 1) := by decide +kernel
theorem dX8_search_107 : decode cX8_search 107 = .ok (.if_icmp .ne 7, 3) := by decide +kernel
theorem dX8_search_110 : decode cX8_search 110 = .ok (.iconst 1, 1) := by decide +kernel
theorem dX8_search_111 : decode cX8_search 111 = .ok (.goto 4, 3) := by decide +kernel
theorem dX8_search_114 : decode cX8_search 114 = .ok (.iconst 0, 1) := by decide +kernel
theorem dX8_search_115 : decode cX8_search 115 = .ok (.istore 8, 2) := by decide +kernel
theorem dX8_search_117 : decode cX8_search 117 = .ok (.iload 8, 2) := by decide +kernel
theorem dX8_search_119 : decode cX8_search 119 = .ok (.aload_n 0, 1) := by decide +kernel
theorem dX8_search_120 : decode cX8_search 120 = .ok (.getfield 21, 3) := by decide +kernel
theorem dX8_search_123 : decode cX8_search 123 = .ok (.iload 7, 2) := by decide +kernel
theorem dX8_search_125 : decode cX8_search 125 = .ok (.baload, 1) := by decide +kernel
theorem dX8_search_126 : decode cX8_search 126 = .ok (.if_icmp .ne 13, 3) := by decide +kernel
theorem dX8_search_129 : decode cX8_search 129 = .ok (.aload_n 0, 1) := by decide +kernel
theorem dX8_search_130 : decode cX8_search 130 = .ok (.iload 6, 2) := by decide +kernel
theorem dX8_search_132 : decode cX8_search 132 = .ok (.iconst 1, 1) := by decide +kernel
theorem dX8_search_133 : decode cX8_search 133 = .ok (.ixor, 1) := by decide +kernel
theorem dX8_search_134 : decode cX8_search 134 = .ok (.iload 6, 2) := by decide +kernel
theorem dX8_search_136 : decode cX8_search 136 = .ok (.invokevirtual 50, 3) := by decide +kernel
theorem dX8_search_139 : decode cX8_search 139 = .ok (.iconst 0, 1) := by decide +kernel
theorem dX8_search_140 : decode cX8_search 140 = .ok (.istore 9, 2) := by decide +kernel
theorem dX8_search_142 : decode cX8_search 142 = .ok (.iload 9, 2) := by decide +kernel
theorem dX8_search_144 : decode cX8_search 144 = .ok (.iconst 4, 1) := by decide +kernel
theorem dX8_search_145 : decode cX8_search 145 = .ok (.if_icmp .ge 103, 3) := by decide +kernel
theorem dX8_search_148 : decode cX8_search 148 = .ok (.aload_n 1, 1) := by decide +kernel
theorem dX8_search_149 : decode cX8_search 149 = .ok (.iload 7, 2) := by decide +kernel
theorem dX8_search_151 : decode cX8_search 151 = .ok (.iload 9, 2) := by decide +kernel
theorem dX8_search_153 : decode cX8_search 153 = .ok (.invokevirtual 38, 3) := by decide +kernel
theorem dX8_search_156 : decode cX8_search 156 = .ok (.istore 10, 2) := by decide +kernel
theorem dX8_search_158 : decode cX8_search 158 = .ok (.iload 10, 2) := by decide +kernel
theorem dX8_search_160 : decode cX8_search 160 = .ok (.iconst (-1), 1) := by decide +kernel
theorem dX8_search_161 : decode cX8_search 161 = .ok (.if_icmp .eq 81, 3) := by decide +kernel
theorem dX8_search_164 : decode cX8_search 164 = .ok (.aload_n 1, 1) := by decide +kernel
theorem dX8_search_165 : decode cX8_search 165 = .ok (.iload 10, 2) := by decide +kernel
theorem dX8_search_167 : decode cX8_search 167 = .ok (.invokevirtual 28, 3) := by decide +kernel
theorem dX8_search_170 : decode cX8_search 170 = .ok (.ifCond .eq 6, 3) := by decide +kernel
theorem dX8_search_173 : decode cX8_search 173 = .ok (.goto 69, 3) := by decide +kernel
theorem dX8_search_176 : decode cX8_search 176 = .ok (.iload 8, 2) := by decide +kernel
theorem dX8_search_178 : decode cX8_search 178 = .ok (.ifCond .eq 28, 3) := by decide +kernel
theorem dX8_search_181 : decode cX8_search 181 = .ok (.aload_n 0, 1) := by decide +kernel
theorem dX8_search_182 : decode cX8_search 182 = .ok (.getfield 25, 3) := by decide +kernel
theorem dX8_search_185 : decode cX8_search 185 = .ok (.iconst 4, 1) := by decide +kernel
theorem dX8_search_186 : decode cX8_search 186 = .ok (.iload 7, 2) := by decide +kernel
theorem dX8_search_188 : decode cX8_search 188 = .ok (.imul, 1) := by decide +kernel
theorem dX8_search_189 : decode cX8_search 189 = .ok (.iload 9, 2) := by decide +kernel
theorem dX8_search_191 : decode cX8_search 191 = .ok (.iadd, 1) := by decide +kernel
theorem dX8_search_192 : decode cX8_search 192 = .ok (.baload, 1) := by decide +kernel
theorem dX8_search_193 : decode cX8_search 193 = .ok (.ifCond .ne 13, 3) := by decide +kernel
theorem dX8_search_196 : decode cX8_search 196 = .ok (.aload_n 0, 1) := by decide +kernel
theorem dX8_search_197 : decode cX8_search 197 = .ok (.iconst 2, 1) := by decide +kernel
theorem dX8_search_198 : decode cX8_search 198 = .ok (.iload 10, 2) := by decide +kernel
theorem dX8_search_200 : decode cX8_search 200 = .ok (.imul, 1) := by decide +kernel
theorem dX8_search_201 : decode cX8_search 201 = .ok (.iload 6, 2) := by decide +kernel
theorem dX8_search_203 : decode cX8_search 203 = .ok (.invokevirtual 50, 3) := by decide +kernel
theorem dX8_search_206 : decode cX8_search 206 = .ok (.iload 8, 2) := by decide +kernel
theorem dX8_search_208 : decode cX8_search 208 = .ok (.ifCond .ne 34, 3) := by decide +kernel
theorem dX8_search_211 : decode cX8_search 211 = .ok (.aload_n 0, 1) := by decide +kernel
theorem dX8_search_212 : decode cX8_search 212 = .ok (.getfield 25, 3) := by decide +kernel
theorem dX8_search_215 : decode cX8_search 215 = .ok (.iconst 4, 1) := by decide +kernel
theorem dX8_search_216 : decode cX8_search 216 = .ok (.iload 10, 2) := by decide +kernel
theorem dX8_search_218 : decode cX8_search 218 = .ok (.imul, 1) := by decide +kernel
theorem dX8_search_219 : decode cX8_search 219 = .ok (.iload 9, 2) := by decide +kernel
theorem dX8_search_221 : decode cX8_search 221 = .ok (.iconst 2, 1) := by decide +kernel
theorem dX8_search_222 : decode cX8_search 222 = .ok (.iadd, 1) := by decide +kernel
theorem dX8_search_223 : decode cX8_search 223 = .ok (.iconst 4, 1) := by decide +kernel
theorem dX8_search_224 : decode cX8_search 224 = .ok (.irem, 1) := by decide +kernel
theorem dX8_search_225 : decode cX8_search 225 = .ok (.iadd, 1) := by decide +kernel
theorem dX8_search_226 : decode cX8_search 226 = .ok (.baload, 1) := by decide +kernel
theorem dX8_search_227 : decode cX8_search 227 = .ok (.ifCond .eq 15, 3) := by decide +kernel
theorem dX8_search_230 : decode cX8_search 230 = .ok (.aload_n 0, 1) := by decide +kernel
theorem dX8_search_231 : decode cX8_search 231 = .ok (.iconst 2, 1) := by decide +kernel
theorem dX8_search_232 : decode cX8_search 232 = .ok (.iload 10, 2) := by decide +kernel
theorem dX8_search_234 : decode cX8_search 234 = .ok (.imul, 1) := by decide +kernel
theorem dX8_search_235 : decode cX8_search 235 = .ok (.iconst 1, 1) := by decide +kernel
theorem dX8_search_236 : decode cX8_search 236 = .ok (.iadd, 1) := by decide +kernel
theorem dX8_search_237 : decode cX8_search 237 = .ok (.iload 6, 2) := by decide +kernel
theorem dX8_search_239 : decode cX8_search 239 = .ok (.invokevirtual 50, 3) := by decide +kernel
theorem dX8_search_242 : decode cX8_search 242 = .ok (.iinc 9 1, 3) := by decide +kernel
theorem dX8_search_245 : decode cX8_search 245 = .ok (.goto (-103), 3) := by decide +kernel
theorem dX8_search_248 : decode cX8_search 248 = .ok (.iinc 5 1, 3) := by decide +kernel
theorem dX8_search_251 : decode cX8_search 251 = .ok (.goto (-185), 3) := by decide +kernel
theorem dX8_search_254 : decode cX8_search 254 = .ok (.aload_n 0, 1) := by decide +kernel
theorem dX8_search_255 : decode cX8_search 255 = .ok (.getfield 18, 3) := by decide +kernel
theorem dX8_search_258 : decode cX8_search 258 = .ok (.iconst 2, 1) := by decide +kernel
theorem dX8_search_259 : decode cX8_search 259 = .ok (.iload_n 3, 1) := by decide +kernel
theorem dX8_search_260 : decode cX8_search 260 = .ok (.imul, 1) := by decide +kernel
theorem dX8_search_261 : decode cX8_search 261 = .ok (.iaload, 1) := by decide +kernel
theorem dX8_search_262 : decode cX8_search 262 = .ok (.iconst (-1), 1) := by decide +kernel
theorem dX8_search_263 : decode cX8_search 263 = .ok (.if_icmp .eq 7, 3) := by decide +kernel
theorem dX8_search_266 : decode cX8_search 266 = .ok (.iconst 1, 1) := by decide +kernel
theorem dX8_search_267 : decode cX8_search 267 = .ok (.goto 4, 3) := by decide +kernel
theorem dX8_search_270 : decode cX8_search 270 = .ok (.iconst 0, 1) := by decide +kernel
theorem dX8_search_271 : decode cX8_search 271 = .ok (.ireturn, 1) := by decide +kernel
theorem dX8_reach_0 : decode cX8_reach 0 = .ok (.aload_n 0, 1) := by decide +kernel
theorem dX8_reach_1 : decode cX8_reach 1 = .ok (.getfield 18, 3) := by decide +kernel
theorem dX8_reach_4 : decode cX8_reach 4 = .ok (.iload_n 1, 1) := by decide +kernel
theorem dX8_reach_5 : decode cX8_reach 5 = .ok (.iaload, 1) := by decide +kernel
theorem dX8_reach_6 : decode cX8_reach 6 = .ok (.iconst (-1), 1) := by decide +kernel
theorem dX8_reach_7 : decode cX8_reach 7 = .ok (.if_icmp .ne 42, 3) := by decide +kernel
theorem dX8_reach_10 : decode cX8_reach 10 = .ok (.aload_n 0, 1) := by decide +kernel
theorem dX8_reach_11 : decode cX8_reach 11 = .ok (.getfield 34, 3) := by decide +kernel
theorem dX8_reach_14 : decode cX8_reach 14 = .ok (.aload_n 0, 1) := by decide +kernel
theorem dX8_reach_15 : decode cX8_reach 15 = .ok (.getfield 9, 3) := by decide +kernel
theorem dX8_reach_18 : decode cX8_reach 18 = .ok (.arraylength, 1) := by decide +kernel
theorem dX8_reach_19 : decode cX8_reach 19 = .ok (.if_icmp .ge 30, 3) := by decide +kernel
theorem dX8_reach_22 : decode cX8_reach 22 = .ok (.aload_n 0, 1) := by decide +kernel
theorem dX8_reach_23 : decode cX8_reach 23 = .ok (.getfield 18, 3) := by decide +kernel
theorem dX8_reach_26 : decode cX8_reach 26 = .ok (.iload_n 1, 1) := by decide +kernel
theorem dX8_reach_27 : decode cX8_reach 27 = .ok (.iload_n 2, 1) := by decide +kernel
theorem dX8_reach_28 : decode cX8_reach 28 = .ok (.iastore, 1) := by decide +kernel
theorem dX8_reach_29 : decode cX8_reach 29 = .ok (.aload_n 0, 1) := by decide +kernel
theorem dX8_reach_30 : decode cX8_reach 30 = .ok (.getfield 9, 3) := by decide +kernel
theorem dX8_reach_33 : decode cX8_reach 33 = .ok (.aload_n 0, 1) := by decide +kernel
theorem dX8_reach_34 : decode cX8_reach 34 = .ok (.getfield 34, 3) := by decide +kernel
theorem dX8_reach_37 : decode cX8_reach 37 = .ok (.iload_n 1, 1) := by decide +kernel
theorem dX8_reach_38 : decode cX8_reach 38 = .ok (.iastore, 1) := by decide +kernel
theorem dX8_reach_39 : decode cX8_reach 39 = .ok (.aload_n 0, 1) := by decide +kernel
theorem dX8_reach_40 : decode cX8_reach 40 = .ok (.dup, 1) := by decide +kernel
theorem dX8_reach_41 : decode cX8_reach 41 = .ok (.getfield 34, 3) := by decide +kernel
theorem dX8_reach_44 : decode cX8_reach 44 = .ok (.iconst 1, 1) := by decide +kernel
theorem dX8_reach_45 : decode cX8_reach 45 = .ok (.iadd, 1) := by decide +kernel
theorem dX8_reach_46 : decode cX8_reach 46 = .ok (.putfield 34, 3) := by decide +kernel
theorem dX8_reach_49 : decode cX8_reach 49 = .ok (.return_, 1) := by decide +kernel
theorem dX8_addWay_0 : decode cX8_addWay 0 = .ok (.iconst 2, 1) := by decide +kernel
theorem dX8_addWay_1 : decode cX8_addWay 1 = .ok (.iload_n 2, 1) := by decide +kernel
theorem dX8_addWay_2 : decode cX8_addWay 2 = .ok (.imul, 1) := by decide +kernel
theorem dX8_addWay_3 : decode cX8_addWay 3 = .ok (.istore_n 3, 1) := by decide +kernel
theorem dX8_addWay_4 : decode cX8_addWay 4 = .ok (.iconst 0, 1) := by decide +kernel
theorem dX8_addWay_5 : decode cX8_addWay 5 = .ok (.istore 4, 2) := by decide +kernel
theorem dX8_addWay_7 : decode cX8_addWay 7 = .ok (.iload 4, 2) := by decide +kernel
theorem dX8_addWay_9 : decode cX8_addWay 9 = .ok (.bipush 112, 2) := by decide +kernel
theorem dX8_addWay_11 : decode cX8_addWay 11 = .ok (.if_icmp .ge 130, 3) := by decide +kernel
theorem dX8_addWay_14 : decode cX8_addWay 14 = .ok (.iload_n 3, 1) := by decide +kernel
theorem dX8_addWay_15 : decode cX8_addWay 15 = .ok (.iconst 2, 1) := by decide +kernel
theorem dX8_addWay_16 : decode cX8_addWay 16 = .ok (.iload_n 1, 1) := by decide +kernel
theorem dX8_addWay_17 : decode cX8_addWay 17 = .ok (.imul, 1) := by decide +kernel
theorem dX8_addWay_18 : decode cX8_addWay 18 = .ok (.iconst 1, 1) := by decide +kernel
theorem dX8_addWay_19 : decode cX8_addWay 19 = .ok (.iadd, 1) := by decide +kernel
theorem dX8_addWay_20 : decode cX8_addWay 20 = .ok (.if_icmp .eq 121, 3) := by decide +kernel
theorem dX8_addWay_23 : decode cX8_addWay 23 = .ok (.aload_n 0, 1) := by decide +kernel
theorem dX8_addWay_24 : decode cX8_addWay 24 = .ok (.getfield 18, 3) := by decide +kernel
theorem dX8_addWay_27 : decode cX8_addWay 27 = .ok (.iload_n 3, 1) := by decide +kernel
theorem dX8_addWay_28 : decode cX8_addWay 28 = .ok (.iaload, 1) := by decide +kernel
theorem dX8_addWay_29 : decode cX8_addWay 29 = .ok (.istore 5, 2) := by decide +kernel
theorem dX8_addWay_31 : decode cX8_addWay 31 = .ok (.iload 5, 2) := by decide +kernel
theorem dX8_addWay_33 : decode cX8_addWay 33 = .ok (.ifCond .ge 4, 3) := by decide +kernel
theorem dX8_addWay_36 : decode cX8_addWay 36 = .ok (.return_, 1) := by decide +kernel
theorem dX8_addWay_37 : decode cX8_addWay 37 = .ok (.iload 5, 2) := by decide +kernel
theorem dX8_addWay_39 : decode cX8_addWay 39 = .ok (.iconst 1, 1) := by decide +kernel
theorem dX8_addWay_40 : decode cX8_addWay 40 = .ok (.ishr, 1) := by decide +kernel
theorem dX8_addWay_41 : decode cX8_addWay 41 = .ok (.istore 6, 2) := by decide +kernel
theorem dX8_addWay_43 : decode cX8_addWay 43 = .ok (.iload_n 3, 1) := by decide +kernel
theorem dX8_addWay_44 : decode cX8_addWay 44 = .ok (.iconst 1, 1) := by decide +kernel
theorem dX8_addWay_45 : decode cX8_addWay 45 = .ok (.ishr, 1) := by decide +kernel
theorem dX8_addWay_46 : decode cX8_addWay 46 = .ok (.istore 7, 2) := by decide +kernel
theorem dX8_addWay_48 : decode cX8_addWay 48 = .ok (.iload_n 3, 1) := by decide +kernel
theorem dX8_addWay_49 : decode cX8_addWay 49 = .ok (.iconst 1, 1) := by decide +kernel
theorem dX8_addWay_50 : decode cX8_addWay 50 = .ok (.iand, 1) := by decide +kernel
theorem dX8_addWay_51 : decode cX8_addWay 51 = .ok (.ifCond .ne 7, 3) := by decide +kernel
theorem dX8_addWay_54 : decode cX8_addWay 54 = .ok (.iconst 1, 1) := by decide +kernel
theorem dX8_addWay_55 : decode cX8_addWay 55 = .ok (.goto 4, 3) := by decide +kernel
theorem dX8_addWay_58 : decode cX8_addWay 58 = .ok (.iconst 0, 1) := by decide +kernel
theorem dX8_addWay_59 : decode cX8_addWay 59 = .ok (.istore 8, 2) := by decide +kernel
theorem dX8_addWay_61 : decode cX8_addWay 61 = .ok (.iload 6, 2) := by decide +kernel
theorem dX8_addWay_63 : decode cX8_addWay 63 = .ok (.iload 7, 2) := by decide +kernel
theorem dX8_addWay_65 : decode cX8_addWay 65 = .ok (.if_icmp .ne 23, 3) := by decide +kernel
theorem dX8_addWay_68 : decode cX8_addWay 68 = .ok (.aload_n 0, 1) := by decide +kernel
theorem dX8_addWay_69 : decode cX8_addWay 69 = .ok (.getfield 21, 3) := by decide +kernel
theorem dX8_addWay_72 : decode cX8_addWay 72 = .ok (.iload 6, 2) := by decide +kernel
theorem dX8_addWay_74 : decode cX8_addWay 74 = .ok (.iload 8, 2) := by decide +kernel
theorem dX8_addWay_76 : decode cX8_addWay 76 = .ok (.ifCond .ne 7, 3) := by decide +kernel
theorem dX8_addWay_79 : decode cX8_addWay 79 = .ok (.iconst 1, 1) := by decide +kernel
theorem dX8_addWay_80 : decode cX8_addWay 80 = .ok (.goto 4, 3) := by decide +kernel
theorem dX8_addWay_83 : decode cX8_addWay 83 = .ok (.iconst 0, 1) := by decide +kernel
theorem dX8_addWay_84 : decode cX8_addWay 84 = .ok (.bastore, 1) := by decide +kernel
theorem dX8_addWay_85 : decode cX8_addWay 85 = .ok (.goto 47, 3) := by decide +kernel
theorem dX8_addWay_88 : decode cX8_addWay 88 = .ok (.iload 8, 2) := by decide +kernel
theorem dX8_addWay_90 : decode cX8_addWay 90 = .ok (.ifCond .eq 24, 3) := by decide +kernel
theorem dX8_addWay_93 : decode cX8_addWay 93 = .ok (.aload_n 0, 1) := by decide +kernel
theorem dX8_addWay_94 : decode cX8_addWay 94 = .ok (.getfield 25, 3) := by decide +kernel
theorem dX8_addWay_97 : decode cX8_addWay 97 = .ok (.iconst 4, 1) := by decide +kernel
theorem dX8_addWay_98 : decode cX8_addWay 98 = .ok (.iload 6, 2) := by decide +kernel
theorem dX8_addWay_100 : decode cX8_addWay 100 = .ok (.imul, 1) := by decide +kernel
theorem dX8_addWay_101 : decode cX8_addWay 101 = .ok (.iload 6, 2) := by decide +kernel
theorem dX8_addWay_103 : decode cX8_addWay 103 = .ok (.iload 7, 2) := by decide +kernel
theorem dX8_addWay_105 : decode cX8_addWay 105 = .ok (.invokestatic 53, 3) := by decide +kernel
theorem dX8_addWay_108 : decode cX8_addWay 108 = .ok (.iadd, 1) := by decide +kernel
theorem dX8_addWay_109 : decode cX8_addWay 109 = .ok (.iconst 1, 1) := by decide +kernel
theorem dX8_addWay_110 : decode cX8_addWay 110 = .ok (.bastore, 1) := by decide +kernel
theorem dX8_addWay_111 : decode cX8_addWay 111 = .ok (.goto 21, 3) := by decide +kernel
theorem dX8_addWay_114 : decode cX8_addWay 114 = .ok (.aload_n 0, 1) := by decide +kernel
theorem dX8_addWay_115 : decode cX8_addWay 115 = .ok (.getfield 25, 3) := by decide +kernel
theorem dX8_addWay_118 : decode cX8_addWay 118 = .ok (.iconst 4, 1) := by decide +kernel
theorem dX8_addWay_119 : decode cX8_addWay 119 = .ok (.iload 7, 2) := by decide +kernel
theorem dX8_addWay_121 : decode cX8_addWay 121 = .ok (.imul, 1) := by decide +kernel
theorem dX8_addWay_122 : decode cX8_addWay 122 = .ok (.iload 7, 2) := by decide +kernel
theorem dX8_addWay_124 : decode cX8_addWay 124 = .ok (.iload 6, 2) := by decide +kernel
theorem dX8_addWay_126 : decode cX8_addWay 126 = .ok (.invokestatic 53, 3) := by decide +kernel
theorem dX8_addWay_129 : decode cX8_addWay 129 = .ok (.iadd, 1) := by decide +kernel
theorem dX8_addWay_130 : decode cX8_addWay 130 = .ok (.iconst 0, 1) := by decide +kernel
theorem dX8_addWay_131 : decode cX8_addWay 131 = .ok (.bastore, 1) := by decide +kernel
theorem dX8_addWay_132 : decode cX8_addWay 132 = .ok (.iload 5, 2) := by decide +kernel
theorem dX8_addWay_134 : decode cX8_addWay 134 = .ok (.istore_n 3, 1) := by decide +kernel
theorem dX8_addWay_135 : decode cX8_addWay 135 = .ok (.iinc 4 1, 3) := by decide +kernel
theorem dX8_addWay_138 : decode cX8_addWay 138 = .ok (.goto (-131), 3) := by decide +kernel
theorem dX8_addWay_141 : decode cX8_addWay 141 = .ok (.return_, 1) := by decide +kernel
theorem dX8_direction_0 : decode cX8_direction 0 = .ok (.iload_n 1, 1) := by decide +kernel
theorem dX8_direction_1 : decode cX8_direction 1 = .ok (.iload_n 0, 1) := by decide +kernel
theorem dX8_direction_2 : decode cX8_direction 2 = .ok (.bipush 8, 2) := by decide +kernel
theorem dX8_direction_4 : decode cX8_direction 4 = .ok (.isub, 1) := by decide +kernel
theorem dX8_direction_5 : decode cX8_direction 5 = .ok (.if_icmp .ne 5, 3) := by decide +kernel
theorem dX8_direction_8 : decode cX8_direction 8 = .ok (.iconst 0, 1) := by decide +kernel
theorem dX8_direction_9 : decode cX8_direction 9 = .ok (.ireturn, 1) := by decide +kernel
theorem dX8_direction_10 : decode cX8_direction 10 = .ok (.iload_n 1, 1) := by decide +kernel
theorem dX8_direction_11 : decode cX8_direction 11 = .ok (.iload_n 0, 1) := by decide +kernel
theorem dX8_direction_12 : decode cX8_direction 12 = .ok (.iconst 1, 1) := by decide +kernel
theorem dX8_direction_13 : decode cX8_direction 13 = .ok (.iadd, 1) := by decide +kernel
theorem dX8_direction_14 : decode cX8_direction 14 = .ok (.if_icmp .ne 5, 3) := by decide +kernel
theorem dX8_direction_17 : decode cX8_direction 17 = .ok (.iconst 1, 1) := by decide +kernel
theorem dX8_direction_18 : decode cX8_direction 18 = .ok (.ireturn, 1) := by decide +kernel
theorem dX8_direction_19 : decode cX8_direction 19 = .ok (.iload_n 1, 1) := by decide +kernel
theorem dX8_direction_20 : decode cX8_direction 20 = .ok (.iload_n 0, 1) := by decide +kernel
theorem dX8_direction_21 : decode cX8_direction 21 = .ok (.bipush 8, 2) := by decide +kernel
theorem dX8_direction_23 : decode cX8_direction 23 = .ok (.iadd, 1) := by decide +kernel
theorem dX8_direction_24 : decode cX8_direction 24 = .ok (.if_icmp .ne 7, 3) := by decide +kernel
theorem dX8_direction_27 : decode cX8_direction 27 = .ok (.iconst 2, 1) := by decide +kernel
theorem dX8_direction_28 : decode cX8_direction 28 = .ok (.goto 4, 3) := by decide +kernel
theorem dX8_direction_31 : decode cX8_direction 31 = .ok (.iconst 3, 1) := by decide +kernel
theorem dX8_direction_32 : decode cX8_direction 32 = .ok (.ireturn, 1) := by decide +kernel
theorem dX9_init_0 : decode cX9_init 0 = .ok (.aload_n 0, 1) := by decide +kernel
theorem dX9_init_1 : decode cX9_init 1 = .ok (.invokespecial 3, 3) := by decide +kernel
theorem dX9_init_4 : decode cX9_init 4 = .ok (.aload_n 0, 1) := by decide +kernel
theorem dX9_init_5 : decode cX9_init 5 = .ok (.bipush 56, 2) := by decide +kernel
theorem dX9_init_7 : decode cX9_init 7 = .ok (.newarray .int, 2) := by decide +kernel
theorem dX9_init_9 : decode cX9_init 9 = .ok (.putfield 9, 3) := by decide +kernel
theorem dX9_init_12 : decode cX9_init 12 = .ok (.aload_n 0, 1) := by decide +kernel
theorem dX9_init_13 : decode cX9_init 13 = .ok (.bipush 56, 2) := by decide +kernel
theorem dX9_init_15 : decode cX9_init 15 = .ok (.newarray .int, 2) := by decide +kernel
theorem dX9_init_17 : decode cX9_init 17 = .ok (.putfield 15, 3) := by decide +kernel
theorem dX9_init_20 : decode cX9_init 20 = .ok (.aload_n 0, 1) := by decide +kernel
theorem dX9_init_21 : decode cX9_init 21 = .ok (.new 18, 3) := by decide +kernel
theorem dX9_init_24 : decode cX9_init 24 = .ok (.dup, 1) := by decide +kernel
theorem dX9_init_25 : decode cX9_init 25 = .ok (.invokespecial 20, 3) := by decide +kernel
theorem dX9_init_28 : decode cX9_init 28 = .ok (.putfield 21, 3) := by decide +kernel
theorem dX9_init_31 : decode cX9_init 31 = .ok (.aload_n 0, 1) := by decide +kernel
theorem dX9_init_32 : decode cX9_init 32 = .ok (.new 25, 3) := by decide +kernel
theorem dX9_init_35 : decode cX9_init 35 = .ok (.dup, 1) := by decide +kernel
theorem dX9_init_36 : decode cX9_init 36 = .ok (.invokespecial 27, 3) := by decide +kernel
theorem dX9_init_39 : decode cX9_init 39 = .ok (.putfield 28, 3) := by decide +kernel
theorem dX9_init_42 : decode cX9_init 42 = .ok (.aload_n 0, 1) := by decide +kernel
theorem dX9_init_43 : decode cX9_init 43 = .ok (.new 32, 3) := by decide +kernel
theorem dX9_init_46 : decode cX9_init 46 = .ok (.dup, 1) := by decide +kernel
theorem dX9_init_47 : decode cX9_init 47 = .ok (.bipush 16, 2) := by decide +kernel
theorem dX9_init_49 : decode cX9_init 49 = .ok (.invokespecial 34, 3) := by decide +kernel
theorem dX9_init_52 : decode cX9_init 52 = .ok (.putfield 37, 3) := by decide +kernel
theorem dX9_init_55 : decode cX9_init 55 = .ok (.aload_n 0, 1) := by decide +kernel
theorem dX9_init_56 : decode cX9_init 56 = .ok (.new 32, 3) := by decide +kernel
theorem dX9_init_59 : decode cX9_init 59 = .ok (.dup, 1) := by decide +kernel
theorem dX9_init_60 : decode cX9_init 60 = .ok (.bipush 12, 2) := by decide +kernel
theorem dX9_init_62 : decode cX9_init 62 = .ok (.invokespecial 34, 3) := by decide +kernel
theorem dX9_init_65 : decode cX9_init 65 = .ok (.putfield 41, 3) := by decide +kernel
theorem dX9_init_68 : decode cX9_init 68 = .ok (.aload_n 0, 1) := by decide +kernel
theorem dX9_init_69 : decode cX9_init 69 = .ok (.new 32, 3) := by decide +kernel
theorem dX9_init_72 : decode cX9_init 72 = .ok (.dup, 1) := by decide +kernel
theorem dX9_init_73 : decode cX9_init 73 = .ok (.bipush 12, 2) := by decide +kernel
theorem dX9_init_75 : decode cX9_init 75 = .ok (.invokespecial 34, 3) := by decide +kernel
theorem dX9_init_78 : decode cX9_init 78 = .ok (.putfield 44, 3) := by decide +kernel
theorem dX9_init_81 : decode cX9_init 81 = .ok (.aload_n 0, 1) := by decide +kernel
theorem dX9_init_82 : decode cX9_init 82 = .ok (.new 32, 3) := by decide +kernel
theorem dX9_init_85 : decode cX9_init 85 = .ok (.dup, 1) := by decide +kernel
theorem dX9_init_86 : decode cX9_init 86 = .ok (.bipush 12, 2) := by decide +kernel
theorem dX9_init_88 : decode cX9_init 88 = .ok (.invokespecial 34, 3) := by decide +kernel
theorem dX9_init_91 : decode cX9_init 91 = .ok (.putfield 47, 3) := by decide +kernel
theorem dX9_init_94 : decode cX9_init 94 = .ok (.aload_n 0, 1) := by decide +kernel
theorem dX9_init_95 : decode cX9_init 95 = .ok (.new 32, 3) := by decide +kernel
theorem dX9_init_98 : decode cX9_init 98 = .ok (.dup, 1) := by decide +kernel
theorem dX9_init_99 : decode cX9_init 99 = .ok (.iload_n 1, 1) := by decide +kernel
theorem dX9_init_100 : decode cX9_init 100 = .ok (.invokespecial 34, 3) := by decide +kernel
theorem dX9_init_103 : decode cX9_init 103 = .ok (.putfield 50, 3) := by decide +kernel
theorem dX9_init_106 : decode cX9_init 106 = .ok (.aload_n 0, 1) := by decide +kernel
theorem dX9_init_107 : decode cX9_init 107 = .ok (.iconst 0, 1) := by decide +kernel
theorem dX9_init_108 : decode cX9_init 108 = .ok (.putfield 53, 3) := by decide +kernel
theorem dX9_init_111 : decode cX9_init 111 = .ok (.aload_n 0, 1) := by decide +kernel
theorem dX9_init_112 : decode cX9_init 112 = .ok (.iconst 5, 1) := by decide +kernel
theorem dX9_init_113 : decode cX9_init 113 = .ok (.iconst 4, 1) := by decide +kernel
theorem dX9_init_114 : decode cX9_init 114 = .ok (.invokevirtual 57, 3) := by decide +kernel
theorem dX9_init_117 : decode cX9_init 117 = .ok (.return_, 1) := by decide +kernel
theorem dX9_begin_0 : decode cX9_begin 0 = .ok (.aload_n 0, 1) := by decide +kernel
theorem dX9_begin_1 : decode cX9_begin 1 = .ok (.iload_n 1, 1) := by decide +kernel
theorem dX9_begin_2 : decode cX9_begin 2 = .ok (.putfield 61, 3) := by decide +kernel
theorem dX9_begin_5 : decode cX9_begin 5 = .ok (.aload_n 0, 1) := by decide +kernel
theorem dX9_begin_6 : decode cX9_begin 6 = .ok (.iload_n 2, 1) := by decide +kernel
theorem dX9_begin_7 : decode cX9_begin 7 = .ok (.putfield 64, 3) := by decide +kernel
theorem dX9_begin_10 : decode cX9_begin 10 = .ok (.aload_n 0, 1) := by decide +kernel
theorem dX9_begin_11 : decode cX9_begin 11 = .ok (.iconst 1, 1) := by decide +kernel
theorem dX9_begin_12 : decode cX9_begin 12 = .ok (.putfield 67, 3) := by decide +kernel
theorem dX9_begin_15 : decode cX9_begin 15 = .ok (.aload_n 0, 1) := by decide +kernel
theorem dX9_begin_16 : decode cX9_begin 16 = .ok (.bipush 60, 2) := by decide +kernel
theorem dX9_begin_18 : decode cX9_begin 18 = .ok (.putfield 70, 3) := by decide +kernel
theorem dX9_begin_21 : decode cX9_begin 21 = .ok (.aload_n 0, 1) := by decide +kernel
theorem dX9_begin_22 : decode cX9_begin 22 = .ok (.iconst 0, 1) := by decide +kernel
theorem dX9_begin_23 : decode cX9_begin 23 = .ok (.putfield 73, 3) := by decide +kernel
theorem dX9_begin_26 : decode cX9_begin 26 = .ok (.aload_n 0, 1) := by decide +kernel
theorem dX9_begin_27 : decode cX9_begin 27 = .ok (.iconst 0, 1) := by decide +kernel
theorem dX9_begin_28 : decode cX9_begin 28 = .ok (.putfield 76, 3) := by decide +kernel
theorem dX9_begin_31 : decode cX9_begin 31 = .ok (.aload_n 0, 1) := by decide +kernel
theorem dX9_begin_32 : decode cX9_begin 32 = .ok (.iconst 0, 1) := by decide +kernel
theorem dX9_begin_33 : decode cX9_begin 33 = .ok (.putfield 79, 3) := by decide +kernel
theorem dX9_begin_36 : decode cX9_begin 36 = .ok (.iconst 0, 1) := by decide +kernel
theorem dX9_begin_37 : decode cX9_begin 37 = .ok (.istore_n 3, 1) := by decide +kernel
theorem dX9_begin_38 : decode cX9_begin 38 = .ok (.iload_n 3, 1) := by decide +kernel
theorem dX9_begin_39 : decode cX9_begin 39 = .ok (.bipush 56, 2) := by decide +kernel
theorem dX9_begin_41 : decode cX9_begin 41 = .ok (.if_icmp .ge 17, 3) := by decide +kernel
theorem dX9_begin_44 : decode cX9_begin 44 = .ok (.aload_n 0, 1) := by decide +kernel
theorem dX9_begin_45 : decode cX9_begin 45 = .ok (.getfield 9, 3) := by decide +kernel
theorem dX9_begin_48 : decode cX9_begin 48 = .ok (.iload_n 3, 1) := by decide +kernel
theorem dX9_begin_49 : decode cX9_begin 49 = .ok (.bipush 10, 2) := by decide +kernel
theorem dX9_begin_51 : decode cX9_begin 51 = .ok (.iastore, 1) := by decide +kernel
theorem dX9_begin_52 : decode cX9_begin 52 = .ok (.iinc 3 1, 3) := by decide +kernel
theorem dX9_begin_55 : decode cX9_begin 55 = .ok (.goto (-17), 3) := by decide +kernel
theorem dX9_begin_58 : decode cX9_begin 58 = .ok (.aload_n 0, 1) := by decide +kernel
theorem dX9_begin_59 : decode cX9_begin 59 = .ok (.getfield 21, 3) := by decide +kernel
theorem dX9_begin_62 : decode cX9_begin 62 = .ok (.iconst 0, 1) := by decide +kernel
theorem dX9_begin_63 : decode cX9_begin 63 = .ok (.putfield 82, 3) := by decide +kernel
theorem dX9_begin_66 : decode cX9_begin 66 = .ok (.aload_n 0, 1) := by decide +kernel
theorem dX9_begin_67 : decode cX9_begin 67 = .ok (.getfield 28, 3) := by decide +kernel
theorem dX9_begin_70 : decode cX9_begin 70 = .ok (.invokevirtual 85, 3) := by decide +kernel
theorem dX9_begin_73 : decode cX9_begin 73 = .ok (.aload_n 0, 1) := by decide +kernel
theorem dX9_begin_74 : decode cX9_begin 74 = .ok (.getfield 37, 3) := by decide +kernel
theorem dX9_begin_77 : decode cX9_begin 77 = .ok (.iconst 0, 1) := by decide +kernel
theorem dX9_begin_78 : decode cX9_begin 78 = .ok (.putfield 88, 3) := by decide +kernel
theorem dX9_begin_81 : decode cX9_begin 81 = .ok (.aload_n 0, 1) := by decide +kernel
theorem dX9_begin_82 : decode cX9_begin 82 = .ok (.getfield 41, 3) := by decide +kernel
theorem dX9_begin_85 : decode cX9_begin 85 = .ok (.iconst 0, 1) := by decide +kernel
theorem dX9_begin_86 : decode cX9_begin 86 = .ok (.putfield 88, 3) := by decide +kernel
theorem dX9_begin_89 : decode cX9_begin 89 = .ok (.aload_n 0, 1) := by decide +kernel
theorem dX9_begin_90 : decode cX9_begin 90 = .ok (.getfield 44, 3) := by decide +kernel
theorem dX9_begin_93 : decode cX9_begin 93 = .ok (.iconst 0, 1) := by decide +kernel
theorem dX9_begin_94 : decode cX9_begin 94 = .ok (.putfield 88, 3) := by decide +kernel
theorem dX9_begin_97 : decode cX9_begin 97 = .ok (.aload_n 0, 1) := by decide +kernel
theorem dX9_begin_98 : decode cX9_begin 98 = .ok (.getfield 47, 3) := by decide +kernel
theorem dX9_begin_101 : decode cX9_begin 101 = .ok (.iconst 0, 1) := by decide +kernel
theorem dX9_begin_102 : decode cX9_begin 102 = .ok (.putfield 88, 3) := by decide +kernel
theorem dX9_begin_105 : decode cX9_begin 105 = .ok (.aload_n 0, 1) := by decide +kernel
theorem dX9_begin_106 : decode cX9_begin 106 = .ok (.getfield 50, 3) := by decide +kernel
theorem dX9_begin_109 : decode cX9_begin 109 = .ok (.iconst 0, 1) := by decide +kernel
theorem dX9_begin_110 : decode cX9_begin 110 = .ok (.putfield 88, 3) := by decide +kernel
theorem dX9_begin_113 : decode cX9_begin 113 = .ok (.return_, 1) := by decide +kernel
theorem dX9_copy_0 : decode cX9_copy 0 = .ok (.aload_n 0, 1) := by decide +kernel
theorem dX9_copy_1 : decode cX9_copy 1 = .ok (.aload_n 1, 1) := by decide +kernel
theorem dX9_copy_2 : decode cX9_copy 2 = .ok (.getfield 61, 3) := by decide +kernel
theorem dX9_copy_5 : decode cX9_copy 5 = .ok (.putfield 61, 3) := by decide +kernel
theorem dX9_copy_8 : decode cX9_copy 8 = .ok (.aload_n 0, 1) := by decide +kernel
theorem dX9_copy_9 : decode cX9_copy 9 = .ok (.aload_n 1, 1) := by decide +kernel
theorem dX9_copy_10 : decode cX9_copy 10 = .ok (.getfield 64, 3) := by decide +kernel
theorem dX9_copy_13 : decode cX9_copy 13 = .ok (.putfield 64, 3) := by decide +kernel
theorem dX9_copy_16 : decode cX9_copy 16 = .ok (.aload_n 0, 1) := by decide +kernel
theorem dX9_copy_17 : decode cX9_copy 17 = .ok (.aload_n 1, 1) := by decide +kernel
theorem dX9_copy_18 : decode cX9_copy 18 = .ok (.getfield 67, 3) := by decide +kernel
theorem dX9_copy_21 : decode cX9_copy 21 = .ok (.putfield 67, 3) := by decide +kernel
theorem dX9_copy_24 : decode cX9_copy 24 = .ok (.aload_n 0, 1) := by decide +kernel
theorem dX9_copy_25 : decode cX9_copy 25 = .ok (.aload_n 1, 1) := by decide +kernel
theorem dX9_copy_26 : decode cX9_copy 26 = .ok (.getfield 70, 3) := by decide +kernel
theorem dX9_copy_29 : decode cX9_copy 29 = .ok (.putfield 70, 3) := by decide +kernel
theorem dX9_copy_32 : decode cX9_copy 32 = .ok (.aload_n 0, 1) := by decide +kernel
theorem dX9_copy_33 : decode cX9_copy 33 = .ok (.aload_n 1, 1) := by decide +kernel
theorem dX9_copy_34 : decode cX9_copy 34 = .ok (.getfield 73, 3) := by decide +kernel
theorem dX9_copy_37 : decode cX9_copy 37 = .ok (.putfield 73, 3) := by decide +kernel
theorem dX9_copy_40 : decode cX9_copy 40 = .ok (.aload_n 0, 1) := by decide +kernel
theorem dX9_copy_41 : decode cX9_copy 41 = .ok (.aload_n 1, 1) := by decide +kernel
theorem dX9_copy_42 : decode cX9_copy 42 = .ok (.getfield 76, 3) := by decide +kernel
theorem dX9_copy_45 : decode cX9_copy 45 = .ok (.putfield 76, 3) := by decide +kernel
theorem dX9_copy_48 : decode cX9_copy 48 = .ok (.aload_n 0, 1) := by decide +kernel
theorem dX9_copy_49 : decode cX9_copy 49 = .ok (.aload_n 1, 1) := by decide +kernel
theorem dX9_copy_50 : decode cX9_copy 50 = .ok (.getfield 79, 3) := by decide +kernel
theorem dX9_copy_53 : decode cX9_copy 53 = .ok (.putfield 79, 3) := by decide +kernel
theorem dX9_copy_56 : decode cX9_copy 56 = .ok (.aload_n 0, 1) := by decide +kernel
theorem dX9_copy_57 : decode cX9_copy 57 = .ok (.aload_n 1, 1) := by decide +kernel
theorem dX9_copy_58 : decode cX9_copy 58 = .ok (.getfield 53, 3) := by decide +kernel
theorem dX9_copy_61 : decode cX9_copy 61 = .ok (.putfield 53, 3) := by decide +kernel
theorem dX9_copy_64 : decode cX9_copy 64 = .ok (.aload_n 1, 1) := by decide +kernel
theorem dX9_copy_65 : decode cX9_copy 65 = .ok (.getfield 9, 3) := by decide +kernel
theorem dX9_copy_68 : decode cX9_copy 68 = .ok (.iconst 0, 1) := by decide +kernel
theorem dX9_copy_69 : decode cX9_copy 69 = .ok (.aload_n 0, 1) := by decide +kernel
theorem dX9_copy_70 : decode cX9_copy 70 = .ok (.getfield 9, 3) := by decide +kernel
theorem dX9_copy_73 : decode cX9_copy 73 = .ok (.iconst 0, 1) := by decide +kernel
theorem dX9_copy_74 : decode cX9_copy 74 = .ok (.bipush 56, 2) := by decide +kernel
theorem dX9_copy_76 : decode cX9_copy 76 = .ok (.invokestatic 89, 3) := by decide +kernel
theorem dX9_copy_79 : decode cX9_copy 79 = .ok (.aload_n 0, 1) := by decide +kernel
theorem dX9_copy_80 : decode cX9_copy 80 = .ok (.getfield 21, 3) := by decide +kernel
theorem dX9_copy_83 : decode cX9_copy 83 = .ok (.aload_n 1, 1) := by decide +kernel
theorem dX9_copy_84 : decode cX9_copy 84 = .ok (.getfield 21, 3) := by decide +kernel
theorem dX9_copy_87 : decode cX9_copy 87 = .ok (.invokevirtual 95, 3) := by decide +kernel
theorem dX9_copy_90 : decode cX9_copy 90 = .ok (.aload_n 0, 1) := by decide +kernel
theorem dX9_copy_91 : decode cX9_copy 91 = .ok (.getfield 28, 3) := by decide +kernel
theorem dX9_copy_94 : decode cX9_copy 94 = .ok (.aload_n 1, 1) := by decide +kernel
theorem dX9_copy_95 : decode cX9_copy 95 = .ok (.getfield 28, 3) := by decide +kernel
theorem dX9_copy_98 : decode cX9_copy 98 = .ok (.invokevirtual 99, 3) := by decide +kernel
theorem dX9_copy_101 : decode cX9_copy 101 = .ok (.aload_n 0, 1) := by decide +kernel
theorem dX9_copy_102 : decode cX9_copy 102 = .ok (.getfield 37, 3) := by decide +kernel
theorem dX9_copy_105 : decode cX9_copy 105 = .ok (.aload_n 1, 1) := by decide +kernel
theorem dX9_copy_106 : decode cX9_copy 106 = .ok (.getfield 37, 3) := by decide +kernel
theorem dX9_copy_109 : decode cX9_copy 109 = .ok (.invokevirtual 102, 3) := by decide +kernel
theorem dX9_copy_112 : decode cX9_copy 112 = .ok (.aload_n 0, 1) := by decide +kernel
theorem dX9_copy_113 : decode cX9_copy 113 = .ok (.getfield 41, 3) := by decide +kernel
theorem dX9_copy_116 : decode cX9_copy 116 = .ok (.aload_n 1, 1) := by decide +kernel
theorem dX9_copy_117 : decode cX9_copy 117 = .ok (.getfield 41, 3) := by decide +kernel
theorem dX9_copy_120 : decode cX9_copy 120 = .ok (.invokevirtual 102, 3) := by decide +kernel
theorem dX9_copy_123 : decode cX9_copy 123 = .ok (.aload_n 0, 1) := by decide +kernel
theorem dX9_copy_124 : decode cX9_copy 124 = .ok (.getfield 44, 3) := by decide +kernel
theorem dX9_copy_127 : decode cX9_copy 127 = .ok (.aload_n 1, 1) := by decide +kernel
theorem dX9_copy_128 : decode cX9_copy 128 = .ok (.getfield 44, 3) := by decide +kernel
theorem dX9_copy_131 : decode cX9_copy 131 = .ok (.invokevirtual 102, 3) := by decide +kernel
theorem dX9_copy_134 : decode cX9_copy 134 = .ok (.aload_n 0, 1) := by decide +kernel
theorem dX9_copy_135 : decode cX9_copy 135 = .ok (.getfield 47, 3) := by decide +kernel
theorem dX9_copy_138 : decode cX9_copy 138 = .ok (.aload_n 1, 1) := by decide +kernel
theorem dX9_copy_139 : decode cX9_copy 139 = .ok (.getfield 47, 3) := by decide +kernel
theorem dX9_copy_142 : decode cX9_copy 142 = .ok (.invokevirtual 102, 3) := by decide +kernel
theorem dX9_copy_145 : decode cX9_copy 145 = .ok (.aload_n 0, 1) := by decide +kernel
theorem dX9_copy_146 : decode cX9_copy 146 = .ok (.getfield 50, 3) := by decide +kernel
theorem dX9_copy_149 : decode cX9_copy 149 = .ok (.aload_n 1, 1) := by decide +kernel
theorem dX9_copy_150 : decode cX9_copy 150 = .ok (.getfield 50, 3) := by decide +kernel
theorem dX9_copy_153 : decode cX9_copy 153 = .ok (.invokevirtual 102, 3) := by decide +kernel
theorem dX9_copy_156 : decode cX9_copy 156 = .ok (.return_, 1) := by decide +kernel
theorem dX9_take_0 : decode cX9_take 0 = .ok (.iload_n 1, 1) := by decide +kernel
theorem dX9_take_1 : decode cX9_take 1 = .ok (.ifCond .ne 22, 3) := by decide +kernel
theorem dX9_take_4 : decode cX9_take 4 = .ok (.aload_n 0, 1) := by decide +kernel
theorem dX9_take_5 : decode cX9_take 5 = .ok (.getfield 28, 3) := by decide +kernel
theorem dX9_take_8 : decode cX9_take 8 = .ok (.aload_n 2, 1) := by decide +kernel
theorem dX9_take_9 : decode cX9_take 9 = .ok (.getfield 28, 3) := by decide +kernel
theorem dX9_take_12 : decode cX9_take 12 = .ok (.invokevirtual 99, 3) := by decide +kernel
theorem dX9_take_15 : decode cX9_take 15 = .ok (.aload_n 0, 1) := by decide +kernel
theorem dX9_take_16 : decode cX9_take 16 = .ok (.getfield 28, 3) := by decide +kernel
theorem dX9_take_19 : decode cX9_take 19 = .ok (.getfield 105, 3) := by decide +kernel
theorem dX9_take_22 : decode cX9_take 22 = .ok (.ireturn, 1) := by decide +kernel
theorem dX9_take_23 : decode cX9_take 23 = .ok (.aload_n 0, 1) := by decide +kernel
theorem dX9_take_24 : decode cX9_take 24 = .ok (.iload_n 1, 1) := by decide +kernel
theorem dX9_take_25 : decode cX9_take 25 = .ok (.invokevirtual 106, 3) := by decide +kernel
theorem dX9_take_28 : decode cX9_take 28 = .ok (.astore_n 3, 1) := by decide +kernel
theorem dX9_take_29 : decode cX9_take 29 = .ok (.aload_n 3, 1) := by decide +kernel
theorem dX9_take_30 : decode cX9_take 30 = .ok (.aload_n 2, 1) := by decide +kernel
theorem dX9_take_31 : decode cX9_take 31 = .ok (.iload_n 1, 1) := by decide +kernel
theorem dX9_take_32 : decode cX9_take 32 = .ok (.invokevirtual 106, 3) := by decide +kernel
theorem dX9_take_35 : decode cX9_take 35 = .ok (.invokevirtual 102, 3) := by decide +kernel
theorem dX9_take_38 : decode cX9_take 38 = .ok (.aload_n 3, 1) := by decide +kernel
theorem dX9_take_39 : decode cX9_take 39 = .ok (.getfield 88, 3) := by decide +kernel
theorem dX9_take_42 : decode cX9_take 42 = .ok (.ireturn, 1) := by decide +kernel
theorem dX9_rowsOf_0 : decode cX9_rowsOf 0 = .ok (.iload_n 1, 1) := by decide +kernel
theorem dX9_rowsOf_1 : decode cX9_rowsOf 1 = .ok (.iconst 1, 1) := by decide +kernel
theorem dX9_rowsOf_2 : decode cX9_rowsOf 2 = .ok (.if_icmp .ne 8, 3) := by decide +kernel
theorem dX9_rowsOf_5 : decode cX9_rowsOf 5 = .ok (.aload_n 0, 1) := by decide +kernel
theorem dX9_rowsOf_6 : decode cX9_rowsOf 6 = .ok (.getfield 37, 3) := by decide +kernel
theorem dX9_rowsOf_9 : decode cX9_rowsOf 9 = .ok (.areturn, 1) := by decide +kernel
theorem dX9_rowsOf_10 : decode cX9_rowsOf 10 = .ok (.iload_n 1, 1) := by decide +kernel
theorem dX9_rowsOf_11 : decode cX9_rowsOf 11 = .ok (.iconst 2, 1) := by decide +kernel
theorem dX9_rowsOf_12 : decode cX9_rowsOf 12 = .ok (.if_icmp .ne 10, 3) := by decide +kernel
theorem dX9_rowsOf_15 : decode cX9_rowsOf 15 = .ok (.aload_n 0, 1) := by decide +kernel
theorem dX9_rowsOf_16 : decode cX9_rowsOf 16 = .ok (.getfield 41, 3) := by decide +kernel
theorem dX9_rowsOf_19 : decode cX9_rowsOf 19 = .ok (.goto 7, 3) := by decide +kernel
theorem dX9_rowsOf_22 : decode cX9_rowsOf 22 = .ok (.aload_n 0, 1) := by decide +kernel
theorem dX9_rowsOf_23 : decode cX9_rowsOf 23 = .ok (.getfield 44, 3) := by decide +kernel
theorem dX9_rowsOf_26 : decode cX9_rowsOf 26 = .ok (.areturn, 1) := by decide +kernel
theorem dX9_hasField_0 : decode cX9_hasField 0 = .ok (.iload_n 1, 1) := by decide +kernel
theorem dX9_hasField_1 : decode cX9_hasField 1 = .ok (.ifCond .lt 34, 3) := by decide +kernel
theorem dX9_hasField_4 : decode cX9_hasField 4 = .ok (.iload_n 1, 1) := by decide +kernel
theorem dX9_hasField_5 : decode cX9_hasField 5 = .ok (.bipush 56, 2) := by decide +kernel
theorem dX9_hasField_7 : decode cX9_hasField 7 = .ok (.if_icmp .ge 28, 3) := by decide +kernel
theorem dX9_hasField_10 : decode cX9_hasField 10 = .ok (.iload_n 1, 1) := by decide +kernel
theorem dX9_hasField_11 : decode cX9_hasField 11 = .ok (.bipush 7, 2) := by decide +kernel
theorem dX9_hasField_13 : decode cX9_hasField 13 = .ok (.iand, 1) := by decide +kernel
theorem dX9_hasField_14 : decode cX9_hasField 14 = .ok (.aload_n 0, 1) := by decide +kernel
theorem dX9_hasField_15 : decode cX9_hasField 15 = .ok (.getfield 61, 3) := by decide +kernel
theorem dX9_hasField_18 : decode cX9_hasField 18 = .ok (.if_icmp .ge 17, 3) := by decide +kernel
theorem dX9_hasField_21 : decode cX9_hasField 21 = .ok (.iload_n 1, 1) := by decide +kernel
theorem dX9_hasField_22 : decode cX9_hasField 22 = .ok (.iconst 3, 1) := by decide +kernel
theorem dX9_hasField_23 : decode cX9_hasField 23 = .ok (.ishr, 1) := by decide +kernel
theorem dX9_hasField_24 : decode cX9_hasField 24 = .ok (.aload_n 0, 1) := by decide +kernel
theorem dX9_hasField_25 : decode cX9_hasField 25 = .ok (.getfield 64, 3) := by decide +kernel
theorem dX9_hasField_28 : decode cX9_hasField 28 = .ok (.if_icmp .ge 7, 3) := by decide +kernel
theorem dX9_hasField_31 : decode cX9_hasField 31 = .ok (.iconst 1, 1) := by decide +kernel
theorem dX9_hasField_32 : decode cX9_hasField 32 = .ok (.goto 4, 3) := by decide +kernel
theorem dX9_hasField_35 : decode cX9_hasField 35 = .ok (.iconst 0, 1) := by decide +kernel
theorem dX9_hasField_36 : decode cX9_hasField 36 = .ok (.ireturn, 1) := by decide +kernel
theorem dX9_beside_0 : decode cX9_beside 0 = .ok (.iload_n 1, 1) := by decide +kernel
theorem dX9_beside_1 : decode cX9_beside 1 = .ok (.bipush 7, 2) := by decide +kernel
theorem dX9_beside_3 : decode cX9_beside 3 = .ok (.iand, 1) := by decide +kernel
theorem dX9_beside_4 : decode cX9_beside 4 = .ok (.iload_n 2, 1) := by decide +kernel
theorem dX9_beside_5 : decode cX9_beside 5 = .ok (.iconst 1, 1) := by decide +kernel
theorem dX9_beside_6 : decode cX9_beside 6 = .ok (.if_icmp .ne 7, 3) := by decide +kernel
theorem dX9_beside_9 : decode cX9_beside 9 = .ok (.iconst 1, 1) := by decide +kernel
theorem dX9_beside_10 : decode cX9_beside 10 = .ok (.goto 4, 3) := by decide +kernel
theorem dX9_beside_13 : decode cX9_beside 13 = .ok (.iconst 0, 1) := by decide +kernel
theorem dX9_beside_14 : decode cX9_beside 14 = .ok (.iadd, 1) := by decide +kernel
theorem dX9_beside_15 : decode cX9_beside 15 = .ok (.iload_n 2, 1) := by decide +kernel
theorem dX9_beside_16 : decode cX9_beside 16 = .ok (.iconst 3, 1) := by decide +kernel
theorem dX9_beside_17 : decode cX9_beside 17 = .ok (.if_icmp .ne 7, 3) := by decide +kernel
theorem dX9_beside_20 : decode cX9_beside 20 = .ok (.iconst 1, 1) := by decide +kernel
theorem dX9_beside_21 : decode cX9_beside 21 = .ok (.goto 4, 3) := by decide +kernel
theorem dX9_beside_24 : decode cX9_beside 24 = .ok (.iconst 0, 1) := by decide +kernel
theorem dX9_beside_25 : decode cX9_beside 25 = .ok (.isub, 1) := by decide +kernel
theorem dX9_beside_26 : decode cX9_beside 26 = .ok (.istore_n 3, 1) := by decide +kernel
theorem dX9_beside_27 : decode cX9_beside 27 = .ok (.iload_n 1, 1) := by decide +kernel
theorem dX9_beside_28 : decode cX9_beside 28 = .ok (.iconst 3, 1) := by decide +kernel
theorem dX9_beside_29 : decode cX9_beside 29 = .ok (.ishr, 1) := by decide +kernel
theorem dX9_beside_30 : decode cX9_beside 30 = .ok (.iload_n 2, 1) := by decide +kernel
theorem dX9_beside_31 : decode cX9_beside 31 = .ok (.iconst 2, 1) := by decide +kernel
theorem dX9_beside_32 : decode cX9_beside 32 = .ok (.if_icmp .ne 7, 3) := by decide +kernel
theorem dX9_beside_35 : decode cX9_beside 35 = .ok (.iconst 1, 1) := by decide +kernel
theorem dX9_beside_36 : decode cX9_beside 36 = .ok (.goto 4, 3) := by decide +kernel
theorem dX9_beside_39 : decode cX9_beside 39 = .ok (.iconst 0, 1) := by decide +kernel
theorem dX9_beside_40 : decode cX9_beside 40 = .ok (.iadd, 1) := by decide +kernel
theorem dX9_beside_41 : decode cX9_beside 41 = .ok (.iload_n 2, 1) := by decide +kernel
theorem dX9_beside_42 : decode cX9_beside 42 = .ok (.ifCond .ne 7, 3) := by decide +kernel
theorem dX9_beside_45 : decode cX9_beside 45 = .ok (.iconst 1, 1) := by decide +kernel
theorem dX9_beside_46 : decode cX9_beside 46 = .ok (.goto 4, 3) := by decide +kernel
theorem dX9_beside_49 : decode cX9_beside 49 = .ok (.iconst 0, 1) := by decide +kernel
theorem dX9_beside_50 : decode cX9_beside 50 = .ok (.isub, 1) := by decide +kernel
theorem dX9_beside_51 : decode cX9_beside 51 = .ok (.istore 4, 2) := by decide +kernel
theorem dX9_beside_53 : decode cX9_beside 53 = .ok (.iload_n 3, 1) := by decide +kernel
theorem dX9_beside_54 : decode cX9_beside 54 = .ok (.ifCond .lt 25, 3) := by decide +kernel
theorem dX9_beside_57 : decode cX9_beside 57 = .ok (.iload_n 3, 1) := by decide +kernel
theorem dX9_beside_58 : decode cX9_beside 58 = .ok (.aload_n 0, 1) := by decide +kernel
theorem dX9_beside_59 : decode cX9_beside 59 = .ok (.getfield 61, 3) := by decide +kernel
theorem dX9_beside_62 : decode cX9_beside 62 = .ok (.if_icmp .ge 17, 3) := by decide +kernel
theorem dX9_beside_65 : decode cX9_beside 65 = .ok (.iload 4, 2) := by decide +kernel
theorem dX9_beside_67 : decode cX9_beside 67 = .ok (.ifCond .lt 12, 3) := by decide +kernel
theorem dX9_beside_70 : decode cX9_beside 70 = .ok (.iload 4, 2) := by decide +kernel
theorem dX9_beside_72 : decode cX9_beside 72 = .ok (.aload_n 0, 1) := by decide +kernel
theorem dX9_beside_73 : decode cX9_beside 73 = .ok (.getfield 64, 3) := by decide +kernel
theorem dX9_beside_76 : decode cX9_beside 76 = .ok (.if_icmp .lt 7, 3) := by decide +kernel
theorem dX9_beside_79 : decode cX9_beside 79 = .ok (.iconst (-1), 1) := by decide +kernel
theorem dX9_beside_80 : decode cX9_beside 80 = .ok (.goto 10, 3) := by decide +kernel
theorem dX9_beside_83 : decode cX9_beside 83 = .ok (.bipush 8, 2) := by decide +kernel
theorem dX9_beside_85 : decode cX9_beside 85 = .ok (.iload 4, 2) := by decide +kernel
theorem dX9_beside_87 : decode cX9_beside 87 = .ok (.imul, 1) := by decide +kernel
theorem dX9_beside_88 : decode cX9_beside 88 = .ok (.iload_n 3, 1) := by decide +kernel
theorem dX9_beside_89 : decode cX9_beside 89 = .ok (.iadd, 1) := by decide +kernel
theorem dX9_beside_90 : decode cX9_beside 90 = .ok (.ireturn, 1) := by decide +kernel
theorem dX9_isSteep_0 : decode cX9_isSteep 0 = .ok (.aload_n 0, 1) := by decide +kernel
theorem dX9_isSteep_1 : decode cX9_isSteep 1 = .ok (.getfield 9, 3) := by decide +kernel
theorem dX9_isSteep_4 : decode cX9_isSteep 4 = .ok (.iload_n 1, 1) := by decide +kernel
theorem dX9_isSteep_5 : decode cX9_isSteep 5 = .ok (.iaload, 1) := by decide +kernel
theorem dX9_isSteep_6 : decode cX9_isSteep 6 = .ok (.aload_n 0, 1) := by decide +kernel
theorem dX9_isSteep_7 : decode cX9_isSteep 7 = .ok (.getfield 70, 3) := by decide +kernel
theorem dX9_isSteep_10 : decode cX9_isSteep 10 = .ok (.if_icmp .lt 7, 3) := by decide +kernel
theorem dX9_isSteep_13 : decode cX9_isSteep 13 = .ok (.iconst 1, 1) := by decide +kernel
theorem dX9_isSteep_14 : decode cX9_isSteep 14 = .ok (.goto 4, 3) := by decide +kernel
theorem dX9_isSteep_17 : decode cX9_isSteep 17 = .ok (.iconst 0, 1) := by decide +kernel
theorem dX9_isSteep_18 : decode cX9_isSteep 18 = .ok (.ireturn, 1) := by decide +kernel
theorem dX9_bareFields_0 : decode cX9_bareFields 0 = .ok (.iconst 0, 1) := by decide +kernel
theorem dX9_bareFields_1 : decode cX9_bareFields 1 = .ok (.istore_n 1, 1) := by decide +kernel
theorem dX9_bareFields_2 : decode cX9_bareFields 2 = .ok (.iconst 0, 1) := by decide +kernel
theorem dX9_bareFields_3 : decode cX9_bareFields 3 = .ok (.istore_n 2, 1) := by decide +kernel
theorem dX9_bareFields_4 : decode cX9_bareFields 4 = .ok (.iload_n 2, 1) := by decide +kernel
theorem dX9_bareFields_5 : decode cX9_bareFields 5 = .ok (.bipush 56, 2) := by decide +kernel
theorem dX9_bareFields_7 : decode cX9_bareFields 7 = .ok (.if_icmp .ge 29, 3) := by decide +kernel
theorem dX9_bareFields_10 : decode cX9_bareFields 10 = .ok (.aload_n 0, 1) := by decide +kernel
theorem dX9_bareFields_11 : decode cX9_bareFields 11 = .ok (.iload_n 2, 1) := by decide +kernel
theorem dX9_bareFields_12 : decode cX9_bareFields 12 = .ok (.invokevirtual 110, 3) := by decide +kernel
theorem dX9_bareFields_15 : decode cX9_bareFields 15 = .ok (.ifCond .eq 15, 3) := by decide +kernel
theorem dX9_bareFields_18 : decode cX9_bareFields 18 = .ok (.aload_n 0, 1) := by decide +kernel
theorem dX9_bareFields_19 : decode cX9_bareFields 19 = .ok (.getfield 9, 3) := by decide +kernel
theorem dX9_bareFields_22 : decode cX9_bareFields 22 = .ok (.iload_n 2, 1) := by decide +kernel
theorem dX9_bareFields_23 : decode cX9_bareFields 23 = .ok (.iaload, 1) := by decide +kernel
theorem dX9_bareFields_24 : decode cX9_bareFields 24 = .ok (.ifCond .ne 6, 3) := by decide +kernel
theorem dX9_bareFields_27 : decode cX9_bareFields 27 = .ok (.iinc 1 1, 3) := by decide +kernel
theorem dX9_bareFields_30 : decode cX9_bareFields 30 = .ok (.iinc 2 1, 3) := by decide +kernel
theorem dX9_bareFields_33 : decode cX9_bareFields 33 = .ok (.goto (-29), 3) := by decide +kernel
theorem dX9_bareFields_36 : decode cX9_bareFields 36 = .ok (.iload_n 1, 1) := by decide +kernel
theorem dX9_bareFields_37 : decode cX9_bareFields 37 = .ok (.ireturn, 1) := by decide +kernel
theorem dX9_matchBy_0 : decode cX9_matchBy 0 = .ok (.iload_n 3, 1) := by decide +kernel
theorem dX9_matchBy_1 : decode cX9_matchBy 1 = .ok (.iload 4, 2) := by decide +kernel
theorem dX9_matchBy_3 : decode cX9_matchBy 3 = .ok (.isub, 1) := by decide +kernel
theorem dX9_matchBy_4 : decode cX9_matchBy 4 = .ok (.invokestatic 114, 3) := by decide +kernel
theorem dX9_matchBy_7 : decode cX9_matchBy 7 = .ok (.istore 5, 2) := by decide +kernel
theorem dX9_matchBy_9 : decode cX9_matchBy 9 = .ok (.aload_n 0, 1) := by decide +kernel
theorem dX9_matchBy_10 : decode cX9_matchBy 10 = .ok (.getfield 28, 3) := by decide +kernel
theorem dX9_matchBy_13 : decode cX9_matchBy 13 = .ok (.invokevirtual 120, 3) := by decide +kernel
theorem dX9_matchBy_16 : decode cX9_matchBy 16 = .ok (.aload_n 0, 1) := by decide +kernel
theorem dX9_matchBy_17 : decode cX9_matchBy 17 = .ok (.getfield 28, 3) := by decide +kernel
theorem dX9_matchBy_20 : decode cX9_matchBy 20 = .ok (.bipush 10, 2) := by decide +kernel
theorem dX9_matchBy_22 : decode cX9_matchBy 22 = .ok (.iload_n 3, 1) := by decide +kernel
theorem dX9_matchBy_23 : decode cX9_matchBy 23 = .ok (.invokevirtual 123, 3) := by decide +kernel
theorem dX9_matchBy_26 : decode cX9_matchBy 26 = .ok (.aload_n 0, 1) := by decide +kernel
theorem dX9_matchBy_27 : decode cX9_matchBy 27 = .ok (.getfield 28, 3) := by decide +kernel
theorem dX9_matchBy_30 : decode cX9_matchBy 30 = .ok (.bipush 11, 2) := by decide +kernel
theorem dX9_matchBy_32 : decode cX9_matchBy 32 = .ok (.aload_n 0, 1) := by decide +kernel
theorem dX9_matchBy_33 : decode cX9_matchBy 33 = .ok (.getfield 21, 3) := by decide +kernel
theorem dX9_matchBy_36 : decode cX9_matchBy 36 = .ok (.getfield 126, 3) := by decide +kernel
theorem dX9_matchBy_39 : decode cX9_matchBy 39 = .ok (.iload_n 1, 1) := by decide +kernel
theorem dX9_matchBy_40 : decode cX9_matchBy 40 = .ok (.iaload, 1) := by decide +kernel
theorem dX9_matchBy_41 : decode cX9_matchBy 41 = .ok (.invokevirtual 123, 3) := by decide +kernel
theorem dX9_matchBy_44 : decode cX9_matchBy 44 = .ok (.aload_n 0, 1) := by decide +kernel
theorem dX9_matchBy_45 : decode cX9_matchBy 45 = .ok (.getfield 28, 3) := by decide +kernel
theorem dX9_matchBy_48 : decode cX9_matchBy 48 = .ok (.bipush 12, 2) := by decide +kernel
theorem dX9_matchBy_50 : decode cX9_matchBy 50 = .ok (.iload 4, 2) := by decide +kernel
theorem dX9_matchBy_52 : decode cX9_matchBy 52 = .ok (.invokevirtual 123, 3) := by decide +kernel
theorem dX9_matchBy_55 : decode cX9_matchBy 55 = .ok (.aload_n 0, 1) := by decide +kernel
theorem dX9_matchBy_56 : decode cX9_matchBy 56 = .ok (.getfield 28, 3) := by decide +kernel
theorem dX9_matchBy_59 : decode cX9_matchBy 59 = .ok (.bipush 13, 2) := by decide +kernel
theorem dX9_matchBy_61 : decode cX9_matchBy 61 = .ok (.aload_n 0, 1) := by decide +kernel
theorem dX9_matchBy_62 : decode cX9_matchBy 62 = .ok (.getfield 21, 3) := by decide +kernel
theorem dX9_matchBy_65 : decode cX9_matchBy 65 = .ok (.getfield 126, 3) := by decide +kernel
theorem dX9_matchBy_68 : decode cX9_matchBy 68 = .ok (.iload_n 2, 1) := by decide +kernel
theorem dX9_matchBy_69 : decode cX9_matchBy 69 = .ok (.iaload, 1) := by decide +kernel
theorem dX9_matchBy_70 : decode cX9_matchBy 70 = .ok (.invokevirtual 123, 3) := by decide +kernel
theorem dX9_matchBy_73 : decode cX9_matchBy 73 = .ok (.aload_n 0, 1) := by decide +kernel
theorem dX9_matchBy_74 : decode cX9_matchBy 74 = .ok (.getfield 28, 3) := by decide +kernel
theorem dX9_matchBy_77 : decode cX9_matchBy 77 = .ok (.bipush 14, 2) := by decide +kernel
theorem dX9_matchBy_79 : decode cX9_matchBy 79 = .ok (.aload_n 0, 1) := by decide +kernel
theorem dX9_matchBy_80 : decode cX9_matchBy 80 = .ok (.getfield 21, 3) := by decide +kernel
theorem dX9_matchBy_83 : decode cX9_matchBy 83 = .ok (.iload_n 1, 1) := by decide +kernel
theorem dX9_matchBy_84 : decode cX9_matchBy 84 = .ok (.iload_n 2, 1) := by decide +kernel
theorem dX9_matchBy_85 : decode cX9_matchBy 85 = .ok (.invokevirtual 129, 3) := by decide +kernel
theorem dX9_matchBy_88 : decode cX9_matchBy 88 = .ok (.ifCond .eq 7, 3) := by decide +kernel
theorem dX9_matchBy_91 : decode cX9_matchBy 91 = .ok (.iconst 1, 1) := by decide +kernel
theorem dX9_matchBy_92 : decode cX9_matchBy 92 = .ok (.goto 4, 3) := by decide +kernel
theorem dX9_matchBy_95 : decode cX9_matchBy 95 = .ok (.iconst 0, 1) := by decide +kernel
theorem dX9_matchBy_96 : decode cX9_matchBy 96 = .ok (.invokevirtual 123, 3) := by decide +kernel
theorem dX9_matchBy_99 : decode cX9_matchBy 99 = .ok (.aload_n 0, 1) := by decide +kernel
theorem dX9_matchBy_100 : decode cX9_matchBy 100 = .ok (.getfield 28, 3) := by decide +kernel
theorem dX9_matchBy_103 : decode cX9_matchBy 103 = .ok (.bipush 15, 2) := by decide +kernel
theorem dX9_matchBy_105 : decode cX9_matchBy 105 = .ok (.iload 5, 2) := by decide +kernel
theorem dX9_matchBy_107 : decode cX9_matchBy 107 = .ok (.invokevirtual 123, 3) := by decide +kernel
theorem dX9_matchBy_110 : decode cX9_matchBy 110 = .ok (.aload_n 0, 1) := by decide +kernel
theorem dX9_matchBy_111 : decode cX9_matchBy 111 = .ok (.getfield 28, 3) := by decide +kernel
theorem dX9_matchBy_114 : decode cX9_matchBy 114 = .ok (.bipush 19, 2) := by decide +kernel
theorem dX9_matchBy_116 : decode cX9_matchBy 116 = .ok (.aload_n 0, 1) := by decide +kernel
theorem dX9_matchBy_117 : decode cX9_matchBy 117 = .ok (.getfield 79, 3) := by decide +kernel
theorem dX9_matchBy_120 : decode cX9_matchBy 120 = .ok (.invokevirtual 123, 3) := by decide +kernel
theorem dX9_matchBy_123 : decode cX9_matchBy 123 = .ok (.aload_n 0, 1) := by decide +kernel
theorem dX9_matchBy_124 : decode cX9_matchBy 124 = .ok (.getfield 28, 3) := by decide +kernel
theorem dX9_matchBy_127 : decode cX9_matchBy 127 = .ok (.iconst 3, 1) := by decide +kernel
theorem dX9_matchBy_128 : decode cX9_matchBy 128 = .ok (.bipush 9, 2) := by decide +kernel
theorem dX9_matchBy_130 : decode cX9_matchBy 130 = .ok (.iload 5, 2) := by decide +kernel
theorem dX9_matchBy_132 : decode cX9_matchBy 132 = .ok (.isub, 1) := by decide +kernel
theorem dX9_matchBy_133 : decode cX9_matchBy 133 = .ok (.invokevirtual 133, 3) := by decide +kernel
theorem dX9_matchBy_136 : decode cX9_matchBy 136 = .ok (.bipush 9, 2) := by decide +kernel
theorem dX9_matchBy_138 : decode cX9_matchBy 138 = .ok (.invokestatic 137, 3) := by decide +kernel
theorem dX9_matchBy_141 : decode cX9_matchBy 141 = .ok (.ireturn, 1) := by decide +kernel
theorem dX9_matchOf_0 : decode cX9_matchOf 0 = .ok (.aload_n 0, 1) := by decide +kernel
theorem dX9_matchOf_1 : decode cX9_matchOf 1 = .ok (.iload_n 1, 1) := by decide +kernel
theorem dX9_matchOf_2 : decode cX9_matchOf 2 = .ok (.iload_n 2, 1) := by decide +kernel
theorem dX9_matchOf_3 : decode cX9_matchOf 3 = .ok (.aload_n 0, 1) := by decide +kernel
theorem dX9_matchOf_4 : decode cX9_matchOf 4 = .ok (.getfield 21, 3) := by decide +kernel
theorem dX9_matchOf_7 : decode cX9_matchOf 7 = .ok (.getfield 140, 3) := by decide +kernel
theorem dX9_matchOf_10 : decode cX9_matchOf 10 = .ok (.iload_n 1, 1) := by decide +kernel
theorem dX9_matchOf_11 : decode cX9_matchOf 11 = .ok (.iaload, 1) := by decide +kernel
theorem dX9_matchOf_12 : decode cX9_matchOf 12 = .ok (.aload_n 0, 1) := by decide +kernel
theorem dX9_matchOf_13 : decode cX9_matchOf 13 = .ok (.getfield 21, 3) := by decide +kernel
theorem dX9_matchOf_16 : decode cX9_matchOf 16 = .ok (.getfield 140, 3) := by decide +kernel
theorem dX9_matchOf_19 : decode cX9_matchOf 19 = .ok (.iload_n 2, 1) := by decide +kernel
theorem dX9_matchOf_20 : decode cX9_matchOf 20 = .ok (.iaload, 1) := by decide +kernel
theorem dX9_matchOf_21 : decode cX9_matchOf 21 = .ok (.invokevirtual 143, 3) := by decide +kernel
theorem dX9_matchOf_24 : decode cX9_matchOf 24 = .ok (.ireturn, 1) := by decide +kernel
theorem dX9_foundOf_0 : decode cX9_foundOf 0 = .ok (.aload_n 0, 1) := by decide +kernel
theorem dX9_foundOf_1 : decode cX9_foundOf 1 = .ok (.getfield 21, 3) := by decide +kernel
theorem dX9_foundOf_4 : decode cX9_foundOf 4 = .ok (.getfield 140, 3) := by decide +kernel
theorem dX9_foundOf_7 : decode cX9_foundOf 7 = .ok (.iload_n 1, 1) := by decide +kernel
theorem dX9_foundOf_8 : decode cX9_foundOf 8 = .ok (.iaload, 1) := by decide +kernel
theorem dX9_foundOf_9 : decode cX9_foundOf 9 = .ok (.istore_n 3, 1) := by decide +kernel
theorem dX9_foundOf_10 : decode cX9_foundOf 10 = .ok (.aload_n 0, 1) := by decide +kernel
theorem dX9_foundOf_11 : decode cX9_foundOf 11 = .ok (.getfield 21, 3) := by decide +kernel
theorem dX9_foundOf_14 : decode cX9_foundOf 14 = .ok (.getfield 140, 3) := by decide +kernel
theorem dX9_foundOf_17 : decode cX9_foundOf 17 = .ok (.iload_n 2, 1) := by decide +kernel
theorem dX9_foundOf_18 : decode cX9_foundOf 18 = .ok (.iaload, 1) := by decide +kernel
theorem dX9_foundOf_19 : decode cX9_foundOf 19 = .ok (.istore 4, 2) := by decide +kernel
theorem dX9_foundOf_21 : decode cX9_foundOf 21 = .ok (.aload_n 0, 1) := by decide +kernel
theorem dX9_foundOf_22 : decode cX9_foundOf 22 = .ok (.iload_n 1, 1) := by decide +kernel
theorem dX9_foundOf_23 : decode cX9_foundOf 23 = .ok (.iload_n 2, 1) := by decide +kernel
theorem dX9_foundOf_24 : decode cX9_foundOf 24 = .ok (.iload_n 3, 1) := by decide +kernel
theorem dX9_foundOf_25 : decode cX9_foundOf 25 = .ok (.iload 4, 2) := by decide +kernel
theorem dX9_foundOf_27 : decode cX9_foundOf 27 = .ok (.invokevirtual 143, 3) := by decide +kernel
theorem dX9_foundOf_30 : decode cX9_foundOf 30 = .ok (.aload_n 0, 1) := by decide +kernel
theorem dX9_foundOf_31 : decode cX9_foundOf 31 = .ok (.iload_n 2, 1) := by decide +kernel
theorem dX9_foundOf_32 : decode cX9_foundOf 32 = .ok (.iload_n 1, 1) := by decide +kernel
theorem dX9_foundOf_33 : decode cX9_foundOf 33 = .ok (.iload 4, 2) := by decide +kernel
theorem dX9_foundOf_35 : decode cX9_foundOf 35 = .ok (.iload_n 3, 1) := by decide +kernel
theorem dX9_foundOf_36 : decode cX9_foundOf 36 = .ok (.invokevirtual 143, 3) := by decide +kernel
theorem dX9_foundOf_39 : decode cX9_foundOf 39 = .ok (.invokestatic 147, 3) := by decide +kernel
theorem dX9_foundOf_42 : decode cX9_foundOf 42 = .ok (.ireturn, 1) := by decide +kernel
theorem dX9_liftOf_0 : decode cX9_liftOf 0 = .ok (.aload_n 0, 1) := by decide +kernel
theorem dX9_liftOf_1 : decode cX9_liftOf 1 = .ok (.getfield 28, 3) := by decide +kernel
theorem dX9_liftOf_4 : decode cX9_liftOf 4 = .ok (.invokevirtual 120, 3) := by decide +kernel
theorem dX9_liftOf_7 : decode cX9_liftOf 7 = .ok (.aload_n 0, 1) := by decide +kernel
theorem dX9_liftOf_8 : decode cX9_liftOf 8 = .ok (.getfield 28, 3) := by decide +kernel
theorem dX9_liftOf_11 : decode cX9_liftOf 11 = .ok (.bipush 18, 2) := by decide +kernel
theorem dX9_liftOf_13 : decode cX9_liftOf 13 = .ok (.iload_n 3, 1) := by decide +kernel
theorem dX9_liftOf_14 : decode cX9_liftOf 14 = .ok (.invokevirtual 123, 3) := by decide +kernel
theorem dX9_liftOf_17 : decode cX9_liftOf 17 = .ok (.aload_n 0, 1) := by decide +kernel
theorem dX9_liftOf_18 : decode cX9_liftOf 18 = .ok (.getfield 28, 3) := by decide +kernel
theorem dX9_liftOf_21 : decode cX9_liftOf 21 = .ok (.bipush 16, 2) := by decide +kernel
theorem dX9_liftOf_23 : decode cX9_liftOf 23 = .ok (.iload 4, 2) := by decide +kernel
theorem dX9_liftOf_25 : decode cX9_liftOf 25 = .ok (.invokevirtual 123, 3) := by decide +kernel
theorem dX9_liftOf_28 : decode cX9_liftOf 28 = .ok (.aload_n 0, 1) := by decide +kernel
theorem dX9_liftOf_29 : decode cX9_liftOf 29 = .ok (.getfield 28, 3) := by decide +kernel
theorem dX9_liftOf_32 : decode cX9_liftOf 32 = .ok (.bipush 17, 2) := by decide +kernel
theorem dX9_liftOf_34 : decode cX9_liftOf 34 = .ok (.iload 5, 2) := by decide +kernel
theorem dX9_liftOf_36 : decode cX9_liftOf 36 = .ok (.invokevirtual 123, 3) := by decide +kernel
theorem dX9_liftOf_39 : decode cX9_liftOf 39 = .ok (.aload_n 0, 1) := by decide +kernel
theorem dX9_liftOf_40 : decode cX9_liftOf 40 = .ok (.getfield 28, 3) := by decide +kernel
theorem dX9_liftOf_43 : decode cX9_liftOf 43 = .ok (.bipush 14, 2) := by decide +kernel
theorem dX9_liftOf_45 : decode cX9_liftOf 45 = .ok (.aload_n 0, 1) := by decide +kernel
theorem dX9_liftOf_46 : decode cX9_liftOf 46 = .ok (.getfield 21, 3) := by decide +kernel
theorem dX9_liftOf_49 : decode cX9_liftOf 49 = .ok (.iload_n 1, 1) := by decide +kernel
theorem dX9_liftOf_50 : decode cX9_liftOf 50 = .ok (.iload_n 2, 1) := by decide +kernel
theorem dX9_liftOf_51 : decode cX9_liftOf 51 = .ok (.invokevirtual 129, 3) := by decide +kernel
theorem dX9_liftOf_54 : decode cX9_liftOf 54 = .ok (.ifCond .eq 7, 3) := by decide +kernel
theorem dX9_liftOf_57 : decode cX9_liftOf 57 = .ok (.iconst 1, 1) := by decide +kernel
theorem dX9_liftOf_58 : decode cX9_liftOf 58 = .ok (.goto 4, 3) := by decide +kernel
theorem dX9_liftOf_61 : decode cX9_liftOf 61 = .ok (.iconst 0, 1) := by decide +kernel
theorem dX9_liftOf_62 : decode cX9_liftOf 62 = .ok (.invokevirtual 123, 3) := by decide +kernel
theorem dX9_liftOf_65 : decode cX9_liftOf 65 = .ok (.aload_n 0, 1) := by decide +kernel
theorem dX9_liftOf_66 : decode cX9_liftOf 66 = .ok (.getfield 28, 3) := by decide +kernel
theorem dX9_liftOf_69 : decode cX9_liftOf 69 = .ok (.bipush 15, 2) := by decide +kernel
theorem dX9_liftOf_71 : decode cX9_liftOf 71 = .ok (.aload_n 0, 1) := by decide +kernel
theorem dX9_liftOf_72 : decode cX9_liftOf 72 = .ok (.getfield 21, 3) := by decide +kernel
theorem dX9_liftOf_75 : decode cX9_liftOf 75 = .ok (.getfield 140, 3) := by decide +kernel
theorem dX9_liftOf_78 : decode cX9_liftOf 78 = .ok (.iload_n 1, 1) := by decide +kernel
theorem dX9_liftOf_79 : decode cX9_liftOf 79 = .ok (.iaload, 1) := by decide +kernel
theorem dX9_liftOf_80 : decode cX9_liftOf 80 = .ok (.aload_n 0, 1) := by decide +kernel
theorem dX9_liftOf_81 : decode cX9_liftOf 81 = .ok (.getfield 21, 3) := by decide +kernel
theorem dX9_liftOf_84 : decode cX9_liftOf 84 = .ok (.getfield 140, 3) := by decide +kernel
theorem dX9_liftOf_87 : decode cX9_liftOf 87 = .ok (.iload_n 2, 1) := by decide +kernel
theorem dX9_liftOf_88 : decode cX9_liftOf 88 = .ok (.iaload, 1) := by decide +kernel
theorem dX9_liftOf_89 : decode cX9_liftOf 89 = .ok (.isub, 1) := by decide +kernel
theorem dX9_liftOf_90 : decode cX9_liftOf 90 = .ok (.invokestatic 114, 3) := by decide +kernel
theorem dX9_liftOf_93 : decode cX9_liftOf 93 = .ok (.invokevirtual 123, 3) := by decide +kernel
theorem dX9_liftOf_96 : decode cX9_liftOf 96 = .ok (.aload_n 0, 1) := by decide +kernel
theorem dX9_liftOf_97 : decode cX9_liftOf 97 = .ok (.getfield 28, 3) := by decide +kernel
theorem dX9_liftOf_100 : decode cX9_liftOf 100 = .ok (.bipush 19, 2) := by decide +kernel
theorem dX9_liftOf_102 : decode cX9_liftOf 102 = .ok (.aload_n 0, 1) := by decide +kernel
theorem dX9_liftOf_103 : decode cX9_liftOf 103 = .ok (.getfield 79, 3) := by decide +kernel
theorem dX9_liftOf_106 : decode cX9_liftOf 106 = .ok (.invokevirtual 123, 3) := by decide +kernel
theorem dX9_liftOf_109 : decode cX9_liftOf 109 = .ok (.aload_n 0, 1) := by decide +kernel
theorem dX9_liftOf_110 : decode cX9_liftOf 110 = .ok (.getfield 28, 3) := by decide +kernel
theorem dX9_liftOf_113 : decode cX9_liftOf 113 = .ok (.iconst 4, 1) := by decide +kernel
theorem dX9_liftOf_114 : decode cX9_liftOf 114 = .ok (.iload_n 3, 1) := by decide +kernel
theorem dX9_liftOf_115 : decode cX9_liftOf 115 = .ok (.iconst 2, 1) := by decide +kernel
theorem dX9_liftOf_116 : decode cX9_liftOf 116 = .ok (.imul, 1) := by decide +kernel
theorem dX9_liftOf_117 : decode cX9_liftOf 117 = .ok (.iload 4, 2) := by decide +kernel
theorem dX9_liftOf_119 : decode cX9_liftOf 119 = .ok (.isub, 1) := by decide +kernel
theorem dX9_liftOf_120 : decode cX9_liftOf 120 = .ok (.invokevirtual 133, 3) := by decide +kernel
theorem dX9_liftOf_123 : decode cX9_liftOf 123 = .ok (.bipush 99, 2) := by decide +kernel
theorem dX9_liftOf_125 : decode cX9_liftOf 125 = .ok (.invokestatic 137, 3) := by decide +kernel
theorem dX9_liftOf_128 : decode cX9_liftOf 128 = .ok (.ireturn, 1) := by decide +kernel
theorem dX9_meltOf_0 : decode cX9_meltOf 0 = .ok (.aload_n 0, 1) := by decide +kernel
theorem dX9_meltOf_1 : decode cX9_meltOf 1 = .ok (.getfield 28, 3) := by decide +kernel
theorem dX9_meltOf_4 : decode cX9_meltOf 4 = .ok (.invokevirtual 120, 3) := by decide +kernel
theorem dX9_meltOf_7 : decode cX9_meltOf 7 = .ok (.aload_n 0, 1) := by decide +kernel
theorem dX9_meltOf_8 : decode cX9_meltOf 8 = .ok (.getfield 28, 3) := by decide +kernel
theorem dX9_meltOf_11 : decode cX9_meltOf 11 = .ok (.bipush 17, 2) := by decide +kernel
theorem dX9_meltOf_13 : decode cX9_meltOf 13 = .ok (.iload_n 1, 1) := by decide +kernel
theorem dX9_meltOf_14 : decode cX9_meltOf 14 = .ok (.invokevirtual 123, 3) := by decide +kernel
theorem dX9_meltOf_17 : decode cX9_meltOf 17 = .ok (.aload_n 0, 1) := by decide +kernel
theorem dX9_meltOf_18 : decode cX9_meltOf 18 = .ok (.getfield 28, 3) := by decide +kernel
theorem dX9_meltOf_21 : decode cX9_meltOf 21 = .ok (.bipush 19, 2) := by decide +kernel
theorem dX9_meltOf_23 : decode cX9_meltOf 23 = .ok (.aload_n 0, 1) := by decide +kernel
theorem dX9_meltOf_24 : decode cX9_meltOf 24 = .ok (.getfield 79, 3) := by decide +kernel
theorem dX9_meltOf_27 : decode cX9_meltOf 27 = .ok (.invokevirtual 123, 3) := by decide +kernel
theorem dX9_meltOf_30 : decode cX9_meltOf 30 = .ok (.aload_n 0, 1) := by decide +kernel
theorem dX9_meltOf_31 : decode cX9_meltOf 31 = .ok (.getfield 28, 3) := by decide +kernel
theorem dX9_meltOf_34 : decode cX9_meltOf 34 = .ok (.iconst 5, 1) := by decide +kernel
theorem dX9_meltOf_35 : decode cX9_meltOf 35 = .ok (.iconst 0, 1) := by decide +kernel
theorem dX9_meltOf_36 : decode cX9_meltOf 36 = .ok (.invokevirtual 133, 3) := by decide +kernel
theorem dX9_meltOf_39 : decode cX9_meltOf 39 = .ok (.bipush 99, 2) := by decide +kernel
theorem dX9_meltOf_41 : decode cX9_meltOf 41 = .ok (.invokestatic 137, 3) := by decide +kernel
theorem dX9_meltOf_44 : decode cX9_meltOf 44 = .ok (.ireturn, 1) := by decide +kernel
theorem dX9_weatherOf_0 : decode cX9_weatherOf 0 = .ok (.iconst 0, 1) := by decide +kernel
theorem dX9_weatherOf_1 : decode cX9_weatherOf 1 = .ok (.istore_n 2, 1) := by decide +kernel
theorem dX9_weatherOf_2 : decode cX9_weatherOf 2 = .ok (.iconst 0, 1) := by decide +kernel
theorem dX9_weatherOf_3 : decode cX9_weatherOf 3 = .ok (.istore_n 3, 1) := by decide +kernel
theorem dX9_weatherOf_4 : decode cX9_weatherOf 4 = .ok (.iload_n 3, 1) := by decide +kernel
theorem dX9_weatherOf_5 : decode cX9_weatherOf 5 = .ok (.aload_n 0, 1) := by decide +kernel
theorem dX9_weatherOf_6 : decode cX9_weatherOf 6 = .ok (.getfield 41, 3) := by decide +kernel
theorem dX9_weatherOf_9 : decode cX9_weatherOf 9 = .ok (.getfield 88, 3) := by decide +kernel
theorem dX9_weatherOf_12 : decode cX9_weatherOf 12 = .ok (.if_icmp .ge 21, 3) := by decide +kernel
theorem dX9_weatherOf_15 : decode cX9_weatherOf 15 = .ok (.iload_n 2, 1) := by decide +kernel
theorem dX9_weatherOf_16 : decode cX9_weatherOf 16 = .ok (.aload_n 0, 1) := by decide +kernel
theorem dX9_weatherOf_17 : decode cX9_weatherOf 17 = .ok (.getfield 41, 3) := by decide +kernel
theorem dX9_weatherOf_20 : decode cX9_weatherOf 20 = .ok (.iload_n 3, 1) := by decide +kernel
theorem dX9_weatherOf_21 : decode cX9_weatherOf 21 = .ok (.iconst 0, 1) := by decide +kernel
theorem dX9_weatherOf_22 : decode cX9_weatherOf 22 = .ok (.invokevirtual 150, 3) := by decide +kernel
theorem dX9_weatherOf_25 : decode cX9_weatherOf 25 = .ok (.iadd, 1) := by decide +kernel
theorem dX9_weatherOf_26 : decode cX9_weatherOf 26 = .ok (.istore_n 2, 1) := by decide +kernel
theorem dX9_weatherOf_27 : decode cX9_weatherOf 27 = .ok (.iinc 3 1, 3) := by decide +kernel
theorem dX9_weatherOf_30 : decode cX9_weatherOf 30 = .ok (.goto (-26), 3) := by decide +kernel
theorem dX9_weatherOf_33 : decode cX9_weatherOf 33 = .ok (.iload_n 2, 1) := by decide +kernel
theorem dX9_weatherOf_34 : decode cX9_weatherOf 34 = .ok (.ifCond .gt 5, 3) := by decide +kernel
theorem dX9_weatherOf_37 : decode cX9_weatherOf 37 = .ok (.iconst 0, 1) := by decide +kernel
theorem dX9_weatherOf_38 : decode cX9_weatherOf 38 = .ok (.ireturn, 1) := by decide +kernel
theorem dX9_weatherOf_39 : decode cX9_weatherOf 39 = .ok (.iload_n 1, 1) := by decide +kernel
theorem dX9_weatherOf_40 : decode cX9_weatherOf 40 = .ok (.iload_n 2, 1) := by decide +kernel
theorem dX9_weatherOf_41 : decode cX9_weatherOf 41 = .ok (.irem, 1) := by decide +kernel
theorem dX9_weatherOf_42 : decode cX9_weatherOf 42 = .ok (.istore_n 3, 1) := by decide +kernel
theorem dX9_weatherOf_43 : decode cX9_weatherOf 43 = .ok (.iconst 0, 1) := by decide +kernel
theorem dX9_weatherOf_44 : decode cX9_weatherOf 44 = .ok (.istore 4, 2) := by decide +kernel
theorem dX9_weatherOf_46 : decode cX9_weatherOf 46 = .ok (.iload 4, 2) := by decide +kernel
theorem dX9_weatherOf_48 : decode cX9_weatherOf 48 = .ok (.aload_n 0, 1) := by decide +kernel
theorem dX9_weatherOf_49 : decode cX9_weatherOf 49 = .ok (.getfield 41, 3) := by decide +kernel
theorem dX9_weatherOf_52 : decode cX9_weatherOf 52 = .ok (.getfield 88, 3) := by decide +kernel
theorem dX9_weatherOf_55 : decode cX9_weatherOf 55 = .ok (.if_icmp .ge 37, 3) := by decide +kernel
theorem dX9_weatherOf_58 : decode cX9_weatherOf 58 = .ok (.iload_n 3, 1) := by decide +kernel
theorem dX9_weatherOf_59 : decode cX9_weatherOf 59 = .ok (.aload_n 0, 1) := by decide +kernel
theorem dX9_weatherOf_60 : decode cX9_weatherOf 60 = .ok (.getfield 41, 3) := by decide +kernel
theorem dX9_weatherOf_63 : decode cX9_weatherOf 63 = .ok (.iload 4, 2) := by decide +kernel
theorem dX9_weatherOf_65 : decode cX9_weatherOf 65 = .ok (.iconst 0, 1) := by decide +kernel
theorem dX9_weatherOf_66 : decode cX9_weatherOf 66 = .ok (.invokevirtual 150, 3) := by decide +kernel
theorem dX9_weatherOf_69 : decode cX9_weatherOf 69 = .ok (.isub, 1) := by decide +kernel
theorem dX9_weatherOf_70 : decode cX9_weatherOf 70 = .ok (.istore_n 3, 1) := by decide +kernel
theorem dX9_weatherOf_71 : decode cX9_weatherOf 71 = .ok (.iload_n 3, 1) := by decide +kernel
theorem dX9_weatherOf_72 : decode cX9_weatherOf 72 = .ok (.ifCond .ge 14, 3) := by decide +kernel
theorem dX9_weatherOf_75 : decode cX9_weatherOf 75 = .ok (.aload_n 0, 1) := by decide +kernel
theorem dX9_weatherOf_76 : decode cX9_weatherOf 76 = .ok (.getfield 41, 3) := by decide +kernel
theorem dX9_weatherOf_79 : decode cX9_weatherOf 79 = .ok (.iload 4, 2) := by decide +kernel
theorem dX9_weatherOf_81 : decode cX9_weatherOf 81 = .ok (.iconst 1, 1) := by decide +kernel
theorem dX9_weatherOf_82 : decode cX9_weatherOf 82 = .ok (.invokevirtual 150, 3) := by decide +kernel
theorem dX9_weatherOf_85 : decode cX9_weatherOf 85 = .ok (.ireturn, 1) := by decide +kernel
theorem dX9_weatherOf_86 : decode cX9_weatherOf 86 = .ok (.iinc 4 1, 3) := by decide +kernel
theorem dX9_weatherOf_89 : decode cX9_weatherOf 89 = .ok (.goto (-43), 3) := by decide +kernel
theorem dX9_weatherOf_92 : decode cX9_weatherOf 92 = .ok (.iconst 0, 1) := by decide +kernel
theorem dX9_weatherOf_93 : decode cX9_weatherOf 93 = .ok (.ireturn, 1) := by decide +kernel
theorem dX9_note_0 : decode cX9_note 0 = .ok (.aload_n 0, 1) := by decide +kernel
theorem dX9_note_1 : decode cX9_note 1 = .ok (.getfield 50, 3) := by decide +kernel
theorem dX9_note_4 : decode cX9_note 4 = .ok (.aload_n 0, 1) := by decide +kernel
theorem dX9_note_5 : decode cX9_note 5 = .ok (.getfield 79, 3) := by decide +kernel
theorem dX9_note_8 : decode cX9_note 8 = .ok (.iload_n 1, 1) := by decide +kernel
theorem dX9_note_9 : decode cX9_note 9 = .ok (.iload_n 2, 1) := by decide +kernel
theorem dX9_note_10 : decode cX9_note 10 = .ok (.iload_n 3, 1) := by decide +kernel
theorem dX9_note_11 : decode cX9_note 11 = .ok (.invokevirtual 153, 3) := by decide +kernel
theorem dX9_note_14 : decode cX9_note 14 = .ok (.pop, 1) := by decide +kernel
theorem dX9_note_15 : decode cX9_note 15 = .ok (.return_, 1) := by decide +kernel
theorem dX9_makeVow_0 : decode cX9_makeVow 0 = .ok (.aload_n 0, 1) := by decide +kernel
theorem dX9_makeVow_1 : decode cX9_makeVow 1 = .ok (.iload_n 1, 1) := by decide +kernel
theorem dX9_makeVow_2 : decode cX9_makeVow 2 = .ok (.iload_n 2, 1) := by decide +kernel
theorem dX9_makeVow_3 : decode cX9_makeVow 3 = .ok (.invokevirtual 157, 3) := by decide +kernel
theorem dX9_makeVow_6 : decode cX9_makeVow 6 = .ok (.istore 4, 2) := by decide +kernel
theorem dX9_makeVow_8 : decode cX9_makeVow 8 = .ok (.iconst 2, 1) := by decide +kernel
theorem dX9_makeVow_9 : decode cX9_makeVow 9 = .ok (.istore 5, 2) := by decide +kernel
theorem dX9_makeVow_11 : decode cX9_makeVow 11 = .ok (.iconst 0, 1) := by decide +kernel
theorem dX9_makeVow_12 : decode cX9_makeVow 12 = .ok (.istore 6, 2) := by decide +kernel
theorem dX9_makeVow_14 : decode cX9_makeVow 14 = .ok (.iload 4, 2) := by decide +kernel
theorem dX9_makeVow_16 : decode cX9_makeVow 16 = .ok (.iconst 3, 1) := by decide +kernel
theorem dX9_makeVow_17 : decode cX9_makeVow 17 = .ok (.if_icmp .lt 94, 3) := by decide +kernel
theorem dX9_makeVow_20 : decode cX9_makeVow 20 = .ok (.iconst 0, 1) := by decide +kernel
theorem dX9_makeVow_21 : decode cX9_makeVow 21 = .ok (.istore 7, 2) := by decide +kernel
theorem dX9_makeVow_23 : decode cX9_makeVow 23 = .ok (.iload 7, 2) := by decide +kernel
theorem dX9_makeVow_25 : decode cX9_makeVow 25 = .ok (.bipush 56, 2) := by decide +kernel
theorem dX9_makeVow_27 : decode cX9_makeVow 27 = .ok (.if_icmp .ge 50, 3) := by decide +kernel
theorem dX9_makeVow_30 : decode cX9_makeVow 30 = .ok (.aload_n 0, 1) := by decide +kernel
theorem dX9_makeVow_31 : decode cX9_makeVow 31 = .ok (.getfield 15, 3) := by decide +kernel
theorem dX9_makeVow_34 : decode cX9_makeVow 34 = .ok (.iload 7, 2) := by decide +kernel
theorem dX9_makeVow_36 : decode cX9_makeVow 36 = .ok (.aload_n 0, 1) := by decide +kernel
theorem dX9_makeVow_37 : decode cX9_makeVow 37 = .ok (.iload 7, 2) := by decide +kernel
theorem dX9_makeVow_39 : decode cX9_makeVow 39 = .ok (.invokevirtual 110, 3) := by decide +kernel
theorem dX9_makeVow_42 : decode cX9_makeVow 42 = .ok (.ifCond .eq 27, 3) := by decide +kernel
theorem dX9_makeVow_45 : decode cX9_makeVow 45 = .ok (.aload_n 0, 1) := by decide +kernel
theorem dX9_makeVow_46 : decode cX9_makeVow 46 = .ok (.iload_n 1, 1) := by decide +kernel
theorem dX9_makeVow_47 : decode cX9_makeVow 47 = .ok (.iload_n 2, 1) := by decide +kernel
theorem dX9_makeVow_48 : decode cX9_makeVow 48 = .ok (.iload 4, 2) := by decide +kernel
theorem dX9_makeVow_50 : decode cX9_makeVow 50 = .ok (.iload_n 3, 1) := by decide +kernel
theorem dX9_makeVow_51 : decode cX9_makeVow 51 = .ok (.iload 7, 2) := by decide +kernel
theorem dX9_makeVow_53 : decode cX9_makeVow 53 = .ok (.invokestatic 160, 3) := by decide +kernel
theorem dX9_makeVow_56 : decode cX9_makeVow 56 = .ok (.aload_n 0, 1) := by decide +kernel
theorem dX9_makeVow_57 : decode cX9_makeVow 57 = .ok (.getfield 9, 3) := by decide +kernel
theorem dX9_makeVow_60 : decode cX9_makeVow 60 = .ok (.iload 7, 2) := by decide +kernel
theorem dX9_makeVow_62 : decode cX9_makeVow 62 = .ok (.iaload, 1) := by decide +kernel
theorem dX9_makeVow_63 : decode cX9_makeVow 63 = .ok (.invokevirtual 163, 3) := by decide +kernel
theorem dX9_makeVow_66 : decode cX9_makeVow 66 = .ok (.goto 4, 3) := by decide +kernel
theorem dX9_makeVow_69 : decode cX9_makeVow 69 = .ok (.iconst 0, 1) := by decide +kernel
theorem dX9_makeVow_70 : decode cX9_makeVow 70 = .ok (.iastore, 1) := by decide +kernel
theorem dX9_makeVow_71 : decode cX9_makeVow 71 = .ok (.iinc 7 1, 3) := by decide +kernel
theorem dX9_makeVow_74 : decode cX9_makeVow 74 = .ok (.goto (-51), 3) := by decide +kernel
theorem dX9_makeVow_77 : decode cX9_makeVow 77 = .ok (.iload 4, 2) := by decide +kernel
theorem dX9_makeVow_79 : decode cX9_makeVow 79 = .ok (.bipush 6, 2) := by decide +kernel
theorem dX9_makeVow_81 : decode cX9_makeVow 81 = .ok (.if_icmp .lt 7, 3) := by decide +kernel
theorem dX9_makeVow_84 : decode cX9_makeVow 84 = .ok (.iconst 0, 1) := by decide +kernel
theorem dX9_makeVow_85 : decode cX9_makeVow 85 = .ok (.goto 4, 3) := by decide +kernel
theorem dX9_makeVow_88 : decode cX9_makeVow 88 = .ok (.iconst 1, 1) := by decide +kernel
theorem dX9_makeVow_89 : decode cX9_makeVow 89 = .ok (.istore 5, 2) := by decide +kernel
theorem dX9_makeVow_91 : decode cX9_makeVow 91 = .ok (.iload 4, 2) := by decide +kernel
theorem dX9_makeVow_93 : decode cX9_makeVow 93 = .ok (.bipush 6, 2) := by decide +kernel
theorem dX9_makeVow_95 : decode cX9_makeVow 95 = .ok (.if_icmp .lt 10, 3) := by decide +kernel
theorem dX9_makeVow_98 : decode cX9_makeVow 98 = .ok (.aload_n 0, 1) := by decide +kernel
theorem dX9_makeVow_99 : decode cX9_makeVow 99 = .ok (.invokevirtual 167, 3) := by decide +kernel
theorem dX9_makeVow_102 : decode cX9_makeVow 102 = .ok (.goto 7, 3) := by decide +kernel
theorem dX9_makeVow_105 : decode cX9_makeVow 105 = .ok (.aload_n 0, 1) := by decide +kernel
theorem dX9_makeVow_106 : decode cX9_makeVow 106 = .ok (.invokevirtual 171, 3) := by decide +kernel
theorem dX9_makeVow_109 : decode cX9_makeVow 109 = .ok (.istore 6, 2) := by decide +kernel
theorem dX9_makeVow_111 : decode cX9_makeVow 111 = .ok (.aload_n 0, 1) := by decide +kernel
theorem dX9_makeVow_112 : decode cX9_makeVow 112 = .ok (.getfield 21, 3) := by decide +kernel
theorem dX9_makeVow_115 : decode cX9_makeVow 115 = .ok (.getfield 174, 3) := by decide +kernel
theorem dX9_makeVow_118 : decode cX9_makeVow 118 = .ok (.iload_n 1, 1) := by decide +kernel
theorem dX9_makeVow_119 : decode cX9_makeVow 119 = .ok (.iload_n 2, 1) := by decide +kernel
theorem dX9_makeVow_120 : decode cX9_makeVow 120 = .ok (.iastore, 1) := by decide +kernel
theorem dX9_makeVow_121 : decode cX9_makeVow 121 = .ok (.aload_n 0, 1) := by decide +kernel
theorem dX9_makeVow_122 : decode cX9_makeVow 122 = .ok (.getfield 21, 3) := by decide +kernel
theorem dX9_makeVow_125 : decode cX9_makeVow 125 = .ok (.getfield 174, 3) := by decide +kernel
theorem dX9_makeVow_128 : decode cX9_makeVow 128 = .ok (.iload_n 2, 1) := by decide +kernel
theorem dX9_makeVow_129 : decode cX9_makeVow 129 = .ok (.iload_n 1, 1) := by decide +kernel
theorem dX9_makeVow_130 : decode cX9_makeVow 130 = .ok (.iastore, 1) := by decide +kernel
theorem dX9_makeVow_131 : decode cX9_makeVow 131 = .ok (.aload_n 0, 1) := by decide +kernel
theorem dX9_makeVow_132 : decode cX9_makeVow 132 = .ok (.iload 5, 2) := by decide +kernel
theorem dX9_makeVow_134 : decode cX9_makeVow 134 = .ok (.iload_n 1, 1) := by decide +kernel
theorem dX9_makeVow_135 : decode cX9_makeVow 135 = .ok (.iload 6, 2) := by decide +kernel
theorem dX9_makeVow_137 : decode cX9_makeVow 137 = .ok (.invokevirtual 177, 3) := by decide +kernel
theorem dX9_makeVow_140 : decode cX9_makeVow 140 = .ok (.iload 4, 2) := by decide +kernel
theorem dX9_makeVow_142 : decode cX9_makeVow 142 = .ok (.ireturn, 1) := by decide +kernel
theorem dX9_rise_0 : decode cX9_rise 0 = .ok (.iconst 0, 1) := by decide +kernel
theorem dX9_rise_1 : decode cX9_rise 1 = .ok (.istore_n 1, 1) := by decide +kernel
theorem dX9_rise_2 : decode cX9_rise 2 = .ok (.iconst 0, 1) := by decide +kernel
theorem dX9_rise_3 : decode cX9_rise 3 = .ok (.istore_n 2, 1) := by decide +kernel
theorem dX9_rise_4 : decode cX9_rise 4 = .ok (.iload_n 2, 1) := by decide +kernel
theorem dX9_rise_5 : decode cX9_rise 5 = .ok (.bipush 56, 2) := by decide +kernel
theorem dX9_rise_7 : decode cX9_rise 7 = .ok (.if_icmp .ge 39, 3) := by decide +kernel
theorem dX9_rise_10 : decode cX9_rise 10 = .ok (.aload_n 0, 1) := by decide +kernel
theorem dX9_rise_11 : decode cX9_rise 11 = .ok (.getfield 15, 3) := by decide +kernel
theorem dX9_rise_14 : decode cX9_rise 14 = .ok (.iload_n 2, 1) := by decide +kernel
theorem dX9_rise_15 : decode cX9_rise 15 = .ok (.iaload, 1) := by decide +kernel
theorem dX9_rise_16 : decode cX9_rise 16 = .ok (.aload_n 0, 1) := by decide +kernel
theorem dX9_rise_17 : decode cX9_rise 17 = .ok (.getfield 9, 3) := by decide +kernel
theorem dX9_rise_20 : decode cX9_rise 20 = .ok (.iload_n 2, 1) := by decide +kernel
theorem dX9_rise_21 : decode cX9_rise 21 = .ok (.iaload, 1) := by decide +kernel
theorem dX9_rise_22 : decode cX9_rise 22 = .ok (.invokestatic 147, 3) := by decide +kernel
theorem dX9_rise_25 : decode cX9_rise 25 = .ok (.istore_n 3, 1) := by decide +kernel
theorem dX9_rise_26 : decode cX9_rise 26 = .ok (.aload_n 0, 1) := by decide +kernel
theorem dX9_rise_27 : decode cX9_rise 27 = .ok (.getfield 9, 3) := by decide +kernel
theorem dX9_rise_30 : decode cX9_rise 30 = .ok (.iload_n 2, 1) := by decide +kernel
theorem dX9_rise_31 : decode cX9_rise 31 = .ok (.dup2, 1) := by decide +kernel
theorem dX9_rise_32 : decode cX9_rise 32 = .ok (.iaload, 1) := by decide +kernel
theorem dX9_rise_33 : decode cX9_rise 33 = .ok (.iload_n 3, 1) := by decide +kernel
theorem dX9_rise_34 : decode cX9_rise 34 = .ok (.isub, 1) := by decide +kernel
theorem dX9_rise_35 : decode cX9_rise 35 = .ok (.iastore, 1) := by decide +kernel
theorem dX9_rise_36 : decode cX9_rise 36 = .ok (.iload_n 1, 1) := by decide +kernel
theorem dX9_rise_37 : decode cX9_rise 37 = .ok (.iload_n 3, 1) := by decide +kernel
theorem dX9_rise_38 : decode cX9_rise 38 = .ok (.iadd, 1) := by decide +kernel
theorem dX9_rise_39 : decode cX9_rise 39 = .ok (.istore_n 1, 1) := by decide +kernel
theorem dX9_rise_40 : decode cX9_rise 40 = .ok (.iinc 2 1, 3) := by decide +kernel
theorem dX9_rise_43 : decode cX9_rise 43 = .ok (.goto (-39), 3) := by decide +kernel
theorem dX9_rise_46 : decode cX9_rise 46 = .ok (.aload_n 0, 1) := by decide +kernel
theorem dX9_rise_47 : decode cX9_rise 47 = .ok (.dup, 1) := by decide +kernel
theorem dX9_rise_48 : decode cX9_rise 48 = .ok (.getfield 76, 3) := by decide +kernel
theorem dX9_rise_51 : decode cX9_rise 51 = .ok (.iload_n 1, 1) := by decide +kernel
theorem dX9_rise_52 : decode cX9_rise 52 = .ok (.iadd, 1) := by decide +kernel
theorem dX9_rise_53 : decode cX9_rise 53 = .ok (.putfield 76, 3) := by decide +kernel
theorem dX9_rise_56 : decode cX9_rise 56 = .ok (.iload_n 1, 1) := by decide +kernel
theorem dX9_rise_57 : decode cX9_rise 57 = .ok (.ireturn, 1) := by decide +kernel
theorem dX9_drift_0 : decode cX9_drift 0 = .ok (.iconst 0, 1) := by decide +kernel
theorem dX9_drift_1 : decode cX9_drift 1 = .ok (.istore_n 1, 1) := by decide +kernel
theorem dX9_drift_2 : decode cX9_drift 2 = .ok (.iload_n 1, 1) := by decide +kernel
theorem dX9_drift_3 : decode cX9_drift 3 = .ok (.bipush 56, 2) := by decide +kernel
theorem dX9_drift_5 : decode cX9_drift 5 = .ok (.if_icmp .ge 32, 3) := by decide +kernel
theorem dX9_drift_8 : decode cX9_drift 8 = .ok (.aload_n 0, 1) := by decide +kernel
theorem dX9_drift_9 : decode cX9_drift 9 = .ok (.getfield 15, 3) := by decide +kernel
theorem dX9_drift_12 : decode cX9_drift 12 = .ok (.iload_n 1, 1) := by decide +kernel
theorem dX9_drift_13 : decode cX9_drift 13 = .ok (.aload_n 0, 1) := by decide +kernel
theorem dX9_drift_14 : decode cX9_drift 14 = .ok (.getfield 15, 3) := by decide +kernel
theorem dX9_drift_17 : decode cX9_drift 17 = .ok (.iload_n 1, 1) := by decide +kernel
theorem dX9_drift_18 : decode cX9_drift 18 = .ok (.iaload, 1) := by decide +kernel
theorem dX9_drift_19 : decode cX9_drift 19 = .ok (.iconst 2, 1) := by decide +kernel
theorem dX9_drift_20 : decode cX9_drift 20 = .ok (.idiv, 1) := by decide +kernel
theorem dX9_drift_21 : decode cX9_drift 21 = .ok (.aload_n 0, 1) := by decide +kernel
theorem dX9_drift_22 : decode cX9_drift 22 = .ok (.getfield 9, 3) := by decide +kernel
theorem dX9_drift_25 : decode cX9_drift 25 = .ok (.iload_n 1, 1) := by decide +kernel
theorem dX9_drift_26 : decode cX9_drift 26 = .ok (.iaload, 1) := by decide +kernel
theorem dX9_drift_27 : decode cX9_drift 27 = .ok (.invokestatic 147, 3) := by decide +kernel
theorem dX9_drift_30 : decode cX9_drift 30 = .ok (.iastore, 1) := by decide +kernel
theorem dX9_drift_31 : decode cX9_drift 31 = .ok (.iinc 1 1, 3) := by decide +kernel
theorem dX9_drift_34 : decode cX9_drift 34 = .ok (.goto (-32), 3) := by decide +kernel
theorem dX9_drift_37 : decode cX9_drift 37 = .ok (.iconst 0, 1) := by decide +kernel
theorem dX9_drift_38 : decode cX9_drift 38 = .ok (.istore_n 1, 1) := by decide +kernel
theorem dX9_drift_39 : decode cX9_drift 39 = .ok (.iconst 0, 1) := by decide +kernel
theorem dX9_drift_40 : decode cX9_drift 40 = .ok (.istore_n 2, 1) := by decide +kernel
theorem dX9_drift_41 : decode cX9_drift 41 = .ok (.iload_n 2, 1) := by decide +kernel
theorem dX9_drift_42 : decode cX9_drift 42 = .ok (.bipush 56, 2) := by decide +kernel
theorem dX9_drift_44 : decode cX9_drift 44 = .ok (.if_icmp .ge 93, 3) := by decide +kernel
theorem dX9_drift_47 : decode cX9_drift 47 = .ok (.aload_n 0, 1) := by decide +kernel
theorem dX9_drift_48 : decode cX9_drift 48 = .ok (.getfield 15, 3) := by decide +kernel
theorem dX9_drift_51 : decode cX9_drift 51 = .ok (.iload_n 2, 1) := by decide +kernel
theorem dX9_drift_52 : decode cX9_drift 52 = .ok (.iaload, 1) := by decide +kernel
theorem dX9_drift_53 : decode cX9_drift 53 = .ok (.ifCond .ne 6, 3) := by decide +kernel
theorem dX9_drift_56 : decode cX9_drift 56 = .ok (.goto 75, 3) := by decide +kernel
theorem dX9_drift_59 : decode cX9_drift 59 = .ok (.iload_n 1, 1) := by decide +kernel
theorem dX9_drift_60 : decode cX9_drift 60 = .ok (.aload_n 0, 1) := by decide +kernel
theorem dX9_drift_61 : decode cX9_drift 61 = .ok (.getfield 15, 3) := by decide +kernel
theorem dX9_drift_64 : decode cX9_drift 64 = .ok (.iload_n 2, 1) := by decide +kernel
theorem dX9_drift_65 : decode cX9_drift 65 = .ok (.iaload, 1) := by decide +kernel
theorem dX9_drift_66 : decode cX9_drift 66 = .ok (.iadd, 1) := by decide +kernel
theorem dX9_drift_67 : decode cX9_drift 67 = .ok (.istore_n 1, 1) := by decide +kernel
theorem dX9_drift_68 : decode cX9_drift 68 = .ok (.aload_n 0, 1) := by decide +kernel
theorem dX9_drift_69 : decode cX9_drift 69 = .ok (.getfield 9, 3) := by decide +kernel
theorem dX9_drift_72 : decode cX9_drift 72 = .ok (.iload_n 2, 1) := by decide +kernel
theorem dX9_drift_73 : decode cX9_drift 73 = .ok (.dup2, 1) := by decide +kernel
theorem dX9_drift_74 : decode cX9_drift 74 = .ok (.iaload, 1) := by decide +kernel
theorem dX9_drift_75 : decode cX9_drift 75 = .ok (.aload_n 0, 1) := by decide +kernel
theorem dX9_drift_76 : decode cX9_drift 76 = .ok (.getfield 15, 3) := by decide +kernel
theorem dX9_drift_79 : decode cX9_drift 79 = .ok (.iload_n 2, 1) := by decide +kernel
theorem dX9_drift_80 : decode cX9_drift 80 = .ok (.iaload, 1) := by decide +kernel
theorem dX9_drift_81 : decode cX9_drift 81 = .ok (.isub, 1) := by decide +kernel
theorem dX9_drift_82 : decode cX9_drift 82 = .ok (.iastore, 1) := by decide +kernel
theorem dX9_drift_83 : decode cX9_drift 83 = .ok (.aload_n 0, 1) := by decide +kernel
theorem dX9_drift_84 : decode cX9_drift 84 = .ok (.iload_n 2, 1) := by decide +kernel
theorem dX9_drift_85 : decode cX9_drift 85 = .ok (.aload_n 0, 1) := by decide +kernel
theorem dX9_drift_86 : decode cX9_drift 86 = .ok (.getfield 67, 3) := by decide +kernel
theorem dX9_drift_89 : decode cX9_drift 89 = .ok (.invokevirtual 181, 3) := by decide +kernel
theorem dX9_drift_92 : decode cX9_drift 92 = .ok (.istore_n 3, 1) := by decide +kernel
theorem dX9_drift_93 : decode cX9_drift 93 = .ok (.iload_n 3, 1) := by decide +kernel
theorem dX9_drift_94 : decode cX9_drift 94 = .ok (.iconst (-1), 1) := by decide +kernel
theorem dX9_drift_95 : decode cX9_drift 95 = .ok (.if_icmp .ne 21, 3) := by decide +kernel
theorem dX9_drift_98 : decode cX9_drift 98 = .ok (.aload_n 0, 1) := by decide +kernel
theorem dX9_drift_99 : decode cX9_drift 99 = .ok (.dup, 1) := by decide +kernel
theorem dX9_drift_100 : decode cX9_drift 100 = .ok (.getfield 76, 3) := by decide +kernel
theorem dX9_drift_103 : decode cX9_drift 103 = .ok (.aload_n 0, 1) := by decide +kernel
theorem dX9_drift_104 : decode cX9_drift 104 = .ok (.getfield 15, 3) := by decide +kernel
theorem dX9_drift_107 : decode cX9_drift 107 = .ok (.iload_n 2, 1) := by decide +kernel
theorem dX9_drift_108 : decode cX9_drift 108 = .ok (.iaload, 1) := by decide +kernel
theorem dX9_drift_109 : decode cX9_drift 109 = .ok (.iadd, 1) := by decide +kernel
theorem dX9_drift_110 : decode cX9_drift 110 = .ok (.putfield 76, 3) := by decide +kernel
theorem dX9_drift_113 : decode cX9_drift 113 = .ok (.goto 18, 3) := by decide +kernel
theorem dX9_drift_116 : decode cX9_drift 116 = .ok (.aload_n 0, 1) := by decide +kernel
theorem dX9_drift_117 : decode cX9_drift 117 = .ok (.getfield 9, 3) := by decide +kernel
theorem dX9_drift_120 : decode cX9_drift 120 = .ok (.iload_n 3, 1) := by decide +kernel
theorem dX9_drift_121 : decode cX9_drift 121 = .ok (.dup2, 1) := by decide +kernel
theorem dX9_drift_122 : decode cX9_drift 122 = .ok (.iaload, 1) := by decide +kernel
theorem dX9_drift_123 : decode cX9_drift 123 = .ok (.aload_n 0, 1) := by decide +kernel
theorem dX9_drift_124 : decode cX9_drift 124 = .ok (.getfield 15, 3) := by decide +kernel
theorem dX9_drift_127 : decode cX9_drift 127 = .ok (.iload_n 2, 1) := by decide +kernel
theorem dX9_drift_128 : decode cX9_drift 128 = .ok (.iaload, 1) := by decide +kernel
theorem dX9_drift_129 : decode cX9_drift 129 = .ok (.iadd, 1) := by decide +kernel
theorem dX9_drift_130 : decode cX9_drift 130 = .ok (.iastore, 1) := by decide +kernel
theorem dX9_drift_131 : decode cX9_drift 131 = .ok (.iinc 2 1, 3) := by decide +kernel
theorem dX9_drift_134 : decode cX9_drift 134 = .ok (.goto (-93), 3) := by decide +kernel
theorem dX9_drift_137 : decode cX9_drift 137 = .ok (.iconst 0, 1) := by decide +kernel
theorem dX9_drift_138 : decode cX9_drift 138 = .ok (.istore_n 2, 1) := by decide +kernel
theorem dX9_drift_139 : decode cX9_drift 139 = .ok (.iload_n 2, 1) := by decide +kernel
theorem dX9_drift_140 : decode cX9_drift 140 = .ok (.bipush 56, 2) := by decide +kernel
theorem dX9_drift_142 : decode cX9_drift 142 = .ok (.if_icmp .ge 26, 3) := by decide +kernel
theorem dX9_drift_145 : decode cX9_drift 145 = .ok (.aload_n 0, 1) := by decide +kernel
theorem dX9_drift_146 : decode cX9_drift 146 = .ok (.getfield 9, 3) := by decide +kernel
theorem dX9_drift_149 : decode cX9_drift 149 = .ok (.iload_n 2, 1) := by decide +kernel
theorem dX9_drift_150 : decode cX9_drift 150 = .ok (.aload_n 0, 1) := by decide +kernel
theorem dX9_drift_151 : decode cX9_drift 151 = .ok (.getfield 9, 3) := by decide +kernel
theorem dX9_drift_154 : decode cX9_drift 154 = .ok (.iload_n 2, 1) := by decide +kernel
theorem dX9_drift_155 : decode cX9_drift 155 = .ok (.iaload, 1) := by decide +kernel
theorem dX9_drift_156 : decode cX9_drift 156 = .ok (.bipush 99, 2) := by decide +kernel
theorem dX9_drift_158 : decode cX9_drift 158 = .ok (.invokestatic 147, 3) := by decide +kernel
theorem dX9_drift_161 : decode cX9_drift 161 = .ok (.iastore, 1) := by decide +kernel
theorem dX9_drift_162 : decode cX9_drift 162 = .ok (.iinc 2 1, 3) := by decide +kernel
theorem dX9_drift_165 : decode cX9_drift 165 = .ok (.goto (-26), 3) := by decide +kernel
theorem dX9_drift_168 : decode cX9_drift 168 = .ok (.iload_n 1, 1) := by decide +kernel
theorem dX9_drift_169 : decode cX9_drift 169 = .ok (.ireturn, 1) := by decide +kernel
theorem dX9_passDay_0 : decode cX9_passDay 0 = .ok (.aload_n 0, 1) := by decide +kernel
theorem dX9_passDay_1 : decode cX9_passDay 1 = .ok (.aload_n 0, 1) := by decide +kernel
theorem dX9_passDay_2 : decode cX9_passDay 2 = .ok (.getfield 79, 3) := by decide +kernel
theorem dX9_passDay_5 : decode cX9_passDay 5 = .ok (.invokevirtual 184, 3) := by decide +kernel
theorem dX9_passDay_8 : decode cX9_passDay 8 = .ok (.istore_n 1, 1) := by decide +kernel
theorem dX9_passDay_9 : decode cX9_passDay 9 = .ok (.iconst 0, 1) := by decide +kernel
theorem dX9_passDay_10 : decode cX9_passDay 10 = .ok (.istore_n 2, 1) := by decide +kernel
theorem dX9_passDay_11 : decode cX9_passDay 11 = .ok (.iload_n 2, 1) := by decide +kernel
theorem dX9_passDay_12 : decode cX9_passDay 12 = .ok (.bipush 56, 2) := by decide +kernel
theorem dX9_passDay_14 : decode cX9_passDay 14 = .ok (.if_icmp .ge 32, 3) := by decide +kernel
theorem dX9_passDay_17 : decode cX9_passDay 17 = .ok (.iload_n 1, 1) := by decide +kernel
theorem dX9_passDay_18 : decode cX9_passDay 18 = .ok (.ifCond .le 28, 3) := by decide +kernel
theorem dX9_passDay_21 : decode cX9_passDay 21 = .ok (.aload_n 0, 1) := by decide +kernel
theorem dX9_passDay_22 : decode cX9_passDay 22 = .ok (.getfield 9, 3) := by decide +kernel
theorem dX9_passDay_25 : decode cX9_passDay 25 = .ok (.iload_n 2, 1) := by decide +kernel
theorem dX9_passDay_26 : decode cX9_passDay 26 = .ok (.aload_n 0, 1) := by decide +kernel
theorem dX9_passDay_27 : decode cX9_passDay 27 = .ok (.getfield 9, 3) := by decide +kernel
theorem dX9_passDay_30 : decode cX9_passDay 30 = .ok (.iload_n 2, 1) := by decide +kernel
theorem dX9_passDay_31 : decode cX9_passDay 31 = .ok (.iaload, 1) := by decide +kernel
theorem dX9_passDay_32 : decode cX9_passDay 32 = .ok (.iload_n 1, 1) := by decide +kernel
theorem dX9_passDay_33 : decode cX9_passDay 33 = .ok (.iadd, 1) := by decide +kernel
theorem dX9_passDay_34 : decode cX9_passDay 34 = .ok (.bipush 99, 2) := by decide +kernel
theorem dX9_passDay_36 : decode cX9_passDay 36 = .ok (.invokestatic 147, 3) := by decide +kernel
theorem dX9_passDay_39 : decode cX9_passDay 39 = .ok (.iastore, 1) := by decide +kernel
theorem dX9_passDay_40 : decode cX9_passDay 40 = .ok (.iinc 2 1, 3) := by decide +kernel
theorem dX9_passDay_43 : decode cX9_passDay 43 = .ok (.goto (-32), 3) := by decide +kernel
theorem dX9_passDay_46 : decode cX9_passDay 46 = .ok (.iconst 0, 1) := by decide +kernel
theorem dX9_passDay_47 : decode cX9_passDay 47 = .ok (.istore_n 2, 1) := by decide +kernel
theorem dX9_passDay_48 : decode cX9_passDay 48 = .ok (.iconst 0, 1) := by decide +kernel
theorem dX9_passDay_49 : decode cX9_passDay 49 = .ok (.istore_n 3, 1) := by decide +kernel
theorem dX9_passDay_50 : decode cX9_passDay 50 = .ok (.iload_n 3, 1) := by decide +kernel
theorem dX9_passDay_51 : decode cX9_passDay 51 = .ok (.aload_n 0, 1) := by decide +kernel
theorem dX9_passDay_52 : decode cX9_passDay 52 = .ok (.getfield 37, 3) := by decide +kernel
theorem dX9_passDay_55 : decode cX9_passDay 55 = .ok (.getfield 88, 3) := by decide +kernel
theorem dX9_passDay_58 : decode cX9_passDay 58 = .ok (.if_icmp .ge 101, 3) := by decide +kernel
theorem dX9_passDay_61 : decode cX9_passDay 61 = .ok (.aload_n 0, 1) := by decide +kernel
theorem dX9_passDay_62 : decode cX9_passDay 62 = .ok (.getfield 37, 3) := by decide +kernel
theorem dX9_passDay_65 : decode cX9_passDay 65 = .ok (.iload_n 3, 1) := by decide +kernel
theorem dX9_passDay_66 : decode cX9_passDay 66 = .ok (.iconst 0, 1) := by decide +kernel
theorem dX9_passDay_67 : decode cX9_passDay 67 = .ok (.invokevirtual 150, 3) := by decide +kernel
theorem dX9_passDay_70 : decode cX9_passDay 70 = .ok (.aload_n 0, 1) := by decide +kernel
theorem dX9_passDay_71 : decode cX9_passDay 71 = .ok (.getfield 79, 3) := by decide +kernel
theorem dX9_passDay_74 : decode cX9_passDay 74 = .ok (.if_icmp .eq 6, 3) := by decide +kernel
theorem dX9_passDay_77 : decode cX9_passDay 77 = .ok (.goto 76, 3) := by decide +kernel
theorem dX9_passDay_80 : decode cX9_passDay 80 = .ok (.aload_n 0, 1) := by decide +kernel
theorem dX9_passDay_81 : decode cX9_passDay 81 = .ok (.getfield 21, 3) := by decide +kernel
theorem dX9_passDay_84 : decode cX9_passDay 84 = .ok (.aload_n 0, 1) := by decide +kernel
theorem dX9_passDay_85 : decode cX9_passDay 85 = .ok (.getfield 37, 3) := by decide +kernel
theorem dX9_passDay_88 : decode cX9_passDay 88 = .ok (.iload_n 3, 1) := by decide +kernel
theorem dX9_passDay_89 : decode cX9_passDay 89 = .ok (.iconst 1, 1) := by decide +kernel
theorem dX9_passDay_90 : decode cX9_passDay 90 = .ok (.invokevirtual 150, 3) := by decide +kernel
theorem dX9_passDay_93 : decode cX9_passDay 93 = .ok (.aload_n 0, 1) := by decide +kernel
theorem dX9_passDay_94 : decode cX9_passDay 94 = .ok (.getfield 37, 3) := by decide +kernel
theorem dX9_passDay_97 : decode cX9_passDay 97 = .ok (.iload_n 3, 1) := by decide +kernel
theorem dX9_passDay_98 : decode cX9_passDay 98 = .ok (.iconst 2, 1) := by decide +kernel
theorem dX9_passDay_99 : decode cX9_passDay 99 = .ok (.invokevirtual 150, 3) := by decide +kernel
theorem dX9_passDay_102 : decode cX9_passDay 102 = .ok (.invokevirtual 187, 3) := by decide +kernel
theorem dX9_passDay_105 : decode cX9_passDay 105 = .ok (.ifCond .eq 41, 3) := by decide +kernel
theorem dX9_passDay_108 : decode cX9_passDay 108 = .ok (.aload_n 0, 1) := by decide +kernel
theorem dX9_passDay_109 : decode cX9_passDay 109 = .ok (.aload_n 0, 1) := by decide +kernel
theorem dX9_passDay_110 : decode cX9_passDay 110 = .ok (.getfield 37, 3) := by decide +kernel
theorem dX9_passDay_113 : decode cX9_passDay 113 = .ok (.iload_n 3, 1) := by decide +kernel
theorem dX9_passDay_114 : decode cX9_passDay 114 = .ok (.iconst 1, 1) := by decide +kernel
theorem dX9_passDay_115 : decode cX9_passDay 115 = .ok (.invokevirtual 150, 3) := by decide +kernel
theorem dX9_passDay_118 : decode cX9_passDay 118 = .ok (.aload_n 0, 1) := by decide +kernel
theorem dX9_passDay_119 : decode cX9_passDay 119 = .ok (.getfield 37, 3) := by decide +kernel
theorem dX9_passDay_122 : decode cX9_passDay 122 = .ok (.iload_n 3, 1) := by decide +kernel
theorem dX9_passDay_123 : decode cX9_passDay 123 = .ok (.iconst 2, 1) := by decide +kernel
theorem dX9_passDay_124 : decode cX9_passDay 124 = .ok (.invokevirtual 150, 3) := by decide +kernel
theorem dX9_passDay_127 : decode cX9_passDay 127 = .ok (.aload_n 0, 1) := by decide +kernel
theorem dX9_passDay_128 : decode cX9_passDay 128 = .ok (.getfield 37, 3) := by decide +kernel
theorem dX9_passDay_131 : decode cX9_passDay 131 = .ok (.iload_n 3, 1) := by decide +kernel
theorem dX9_passDay_132 : decode cX9_passDay 132 = .ok (.iconst 3, 1) := by decide +kernel
theorem dX9_passDay_133 : decode cX9_passDay 133 = .ok (.invokevirtual 150, 3) := by decide +kernel
theorem dX9_passDay_136 : decode cX9_passDay 136 = .ok (.invokevirtual 190, 3) := by decide +kernel
theorem dX9_passDay_139 : decode cX9_passDay 139 = .ok (.pop, 1) := by decide +kernel
theorem dX9_passDay_140 : decode cX9_passDay 140 = .ok (.iinc 2 1, 3) := by decide +kernel
theorem dX9_passDay_143 : decode cX9_passDay 143 = .ok (.goto 10, 3) := by decide +kernel
theorem dX9_passDay_146 : decode cX9_passDay 146 = .ok (.aload_n 0, 1) := by decide +kernel
theorem dX9_passDay_147 : decode cX9_passDay 147 = .ok (.iconst 3, 1) := by decide +kernel
theorem dX9_passDay_148 : decode cX9_passDay 148 = .ok (.iload_n 3, 1) := by decide +kernel
theorem dX9_passDay_149 : decode cX9_passDay 149 = .ok (.iconst 0, 1) := by decide +kernel
theorem dX9_passDay_150 : decode cX9_passDay 150 = .ok (.invokevirtual 177, 3) := by decide +kernel
theorem dX9_passDay_153 : decode cX9_passDay 153 = .ok (.iinc 3 1, 3) := by decide +kernel
theorem dX9_passDay_156 : decode cX9_passDay 156 = .ok (.goto (-106), 3) := by decide +kernel
theorem dX9_passDay_159 : decode cX9_passDay 159 = .ok (.aload_n 0, 1) := by decide +kernel
theorem dX9_passDay_160 : decode cX9_passDay 160 = .ok (.getfield 73, 3) := by decide +kernel
theorem dX9_passDay_163 : decode cX9_passDay 163 = .ok (.ifCond .le 7, 3) := by decide +kernel
theorem dX9_passDay_166 : decode cX9_passDay 166 = .ok (.aload_n 0, 1) := by decide +kernel
theorem dX9_passDay_167 : decode cX9_passDay 167 = .ok (.invokevirtual 194, 3) := by decide +kernel
theorem dX9_passDay_170 : decode cX9_passDay 170 = .ok (.aload_n 0, 1) := by decide +kernel
theorem dX9_passDay_171 : decode cX9_passDay 171 = .ok (.invokevirtual 197, 3) := by decide +kernel
theorem dX9_passDay_174 : decode cX9_passDay 174 = .ok (.aload_n 0, 1) := by decide +kernel
theorem dX9_passDay_175 : decode cX9_passDay 175 = .ok (.dup, 1) := by decide +kernel
theorem dX9_passDay_176 : decode cX9_passDay 176 = .ok (.getfield 79, 3) := by decide +kernel
theorem dX9_passDay_179 : decode cX9_passDay 179 = .ok (.iconst 1, 1) := by decide +kernel
theorem dX9_passDay_180 : decode cX9_passDay 180 = .ok (.iadd, 1) := by decide +kernel
theorem dX9_passDay_181 : decode cX9_passDay 181 = .ok (.putfield 79, 3) := by decide +kernel
theorem dX9_passDay_184 : decode cX9_passDay 184 = .ok (.iload_n 2, 1) := by decide +kernel
theorem dX9_passDay_185 : decode cX9_passDay 185 = .ok (.ireturn, 1) := by decide +kernel
theorem dX9_draw_0 : decode cX9_draw 0 = .ok (.aload_n 0, 1) := by decide +kernel
theorem dX9_draw_1 : decode cX9_draw 1 = .ok (.ldc 200, 2) := by decide +kernel
theorem dX9_draw_3 : decode cX9_draw 3 = .ok (.aload_n 0, 1) := by decide +kernel
theorem dX9_draw_4 : decode cX9_draw 4 = .ok (.getfield 53, 3) := by decide +kernel
theorem dX9_draw_7 : decode cX9_draw 7 = .ok (.imul, 1) := by decide +kernel
theorem dX9_draw_8 : decode cX9_draw 8 = .ok (.ldc 201, 2) := by decide +kernel
theorem dX9_draw_10 : decode cX9_draw 10 = .ok (.iadd, 1) := by decide +kernel
theorem dX9_draw_11 : decode cX9_draw 11 = .ok (.putfield 53, 3) := by decide +kernel
theorem dX9_draw_14 : decode cX9_draw 14 = .ok (.iload_n 1, 1) := by decide +kernel
theorem dX9_draw_15 : decode cX9_draw 15 = .ok (.ifCond .gt 7, 3) := by decide +kernel
theorem dX9_draw_18 : decode cX9_draw 18 = .ok (.iconst 0, 1) := by decide +kernel
theorem dX9_draw_19 : decode cX9_draw 19 = .ok (.goto 12, 3) := by decide +kernel
theorem dX9_draw_22 : decode cX9_draw 22 = .ok (.aload_n 0, 1) := by decide +kernel
theorem dX9_draw_23 : decode cX9_draw 23 = .ok (.getfield 53, 3) := by decide +kernel
theorem dX9_draw_26 : decode cX9_draw 26 = .ok (.bipush 8, 2) := by decide +kernel
theorem dX9_draw_28 : decode cX9_draw 28 = .ok (.iushr, 1) := by decide +kernel
theorem dX9_draw_29 : decode cX9_draw 29 = .ok (.iload_n 1, 1) := by decide +kernel
theorem dX9_draw_30 : decode cX9_draw 30 = .ok (.irem, 1) := by decide +kernel
theorem dX9_draw_31 : decode cX9_draw 31 = .ok (.ireturn, 1) := by decide +kernel
theorem dX9_slide_0 : decode cX9_slide 0 = .ok (.iconst 0, 1) := by decide +kernel
theorem dX9_slide_1 : decode cX9_slide 1 = .ok (.istore_n 1, 1) := by decide +kernel
theorem dX9_slide_2 : decode cX9_slide 2 = .ok (.iload_n 1, 1) := by decide +kernel
theorem dX9_slide_3 : decode cX9_slide 3 = .ok (.bipush 56, 2) := by decide +kernel
theorem dX9_slide_5 : decode cX9_slide 5 = .ok (.if_icmp .ge 104, 3) := by decide +kernel
theorem dX9_slide_8 : decode cX9_slide 8 = .ok (.aload_n 0, 1) := by decide +kernel
theorem dX9_slide_9 : decode cX9_slide 9 = .ok (.iload_n 1, 1) := by decide +kernel
theorem dX9_slide_10 : decode cX9_slide 10 = .ok (.invokevirtual 110, 3) := by decide +kernel
theorem dX9_slide_13 : decode cX9_slide 13 = .ok (.ifCond .eq 90, 3) := by decide +kernel
theorem dX9_slide_16 : decode cX9_slide 16 = .ok (.aload_n 0, 1) := by decide +kernel
theorem dX9_slide_17 : decode cX9_slide 17 = .ok (.getfield 9, 3) := by decide +kernel
theorem dX9_slide_20 : decode cX9_slide 20 = .ok (.iload_n 1, 1) := by decide +kernel
theorem dX9_slide_21 : decode cX9_slide 21 = .ok (.iaload, 1) := by decide +kernel
theorem dX9_slide_22 : decode cX9_slide 22 = .ok (.aload_n 0, 1) := by decide +kernel
theorem dX9_slide_23 : decode cX9_slide 23 = .ok (.getfield 70, 3) := by decide +kernel
theorem dX9_slide_26 : decode cX9_slide 26 = .ok (.if_icmp .lt 77, 3) := by decide +kernel
theorem dX9_slide_29 : decode cX9_slide 29 = .ok (.aload_n 0, 1) := by decide +kernel
theorem dX9_slide_30 : decode cX9_slide 30 = .ok (.sipush 1000, 3) := by decide +kernel
theorem dX9_slide_33 : decode cX9_slide 33 = .ok (.invokevirtual 202, 3) := by decide +kernel
theorem dX9_slide_36 : decode cX9_slide 36 = .ok (.aload_n 0, 1) := by decide +kernel
theorem dX9_slide_37 : decode cX9_slide 37 = .ok (.getfield 73, 3) := by decide +kernel
theorem dX9_slide_40 : decode cX9_slide 40 = .ok (.if_icmp .lt 6, 3) := by decide +kernel
theorem dX9_slide_43 : decode cX9_slide 43 = .ok (.goto 60, 3) := by decide +kernel
theorem dX9_slide_46 : decode cX9_slide 46 = .ok (.aload_n 0, 1) := by decide +kernel
theorem dX9_slide_47 : decode cX9_slide 47 = .ok (.getfield 9, 3) := by decide +kernel
theorem dX9_slide_50 : decode cX9_slide 50 = .ok (.iload_n 1, 1) := by decide +kernel
theorem dX9_slide_51 : decode cX9_slide 51 = .ok (.iaload, 1) := by decide +kernel
theorem dX9_slide_52 : decode cX9_slide 52 = .ok (.iconst 2, 1) := by decide +kernel
theorem dX9_slide_53 : decode cX9_slide 53 = .ok (.idiv, 1) := by decide +kernel
theorem dX9_slide_54 : decode cX9_slide 54 = .ok (.istore_n 2, 1) := by decide +kernel
theorem dX9_slide_55 : decode cX9_slide 55 = .ok (.aload_n 0, 1) := by decide +kernel
theorem dX9_slide_56 : decode cX9_slide 56 = .ok (.getfield 9, 3) := by decide +kernel
theorem dX9_slide_59 : decode cX9_slide 59 = .ok (.iload_n 1, 1) := by decide +kernel
theorem dX9_slide_60 : decode cX9_slide 60 = .ok (.dup2, 1) := by decide +kernel
theorem dX9_slide_61 : decode cX9_slide 61 = .ok (.iaload, 1) := by decide +kernel
theorem dX9_slide_62 : decode cX9_slide 62 = .ok (.iload_n 2, 1) := by decide +kernel
theorem dX9_slide_63 : decode cX9_slide 63 = .ok (.isub, 1) := by decide +kernel
theorem dX9_slide_64 : decode cX9_slide 64 = .ok (.iastore, 1) := by decide +kernel
theorem dX9_slide_65 : decode cX9_slide 65 = .ok (.aload_n 0, 1) := by decide +kernel
theorem dX9_slide_66 : decode cX9_slide 66 = .ok (.iload_n 1, 1) := by decide +kernel
theorem dX9_slide_67 : decode cX9_slide 67 = .ok (.iconst 2, 1) := by decide +kernel
theorem dX9_slide_68 : decode cX9_slide 68 = .ok (.invokevirtual 181, 3) := by decide +kernel
theorem dX9_slide_71 : decode cX9_slide 71 = .ok (.istore_n 3, 1) := by decide +kernel
theorem dX9_slide_72 : decode cX9_slide 72 = .ok (.iload_n 3, 1) := by decide +kernel
theorem dX9_slide_73 : decode cX9_slide 73 = .ok (.iconst (-1), 1) := by decide +kernel
theorem dX9_slide_74 : decode cX9_slide 74 = .ok (.if_icmp .eq 22, 3) := by decide +kernel
theorem dX9_slide_77 : decode cX9_slide 77 = .ok (.aload_n 0, 1) := by decide +kernel
theorem dX9_slide_78 : decode cX9_slide 78 = .ok (.getfield 9, 3) := by decide +kernel
theorem dX9_slide_81 : decode cX9_slide 81 = .ok (.iload_n 3, 1) := by decide +kernel
theorem dX9_slide_82 : decode cX9_slide 82 = .ok (.aload_n 0, 1) := by decide +kernel
theorem dX9_slide_83 : decode cX9_slide 83 = .ok (.getfield 9, 3) := by decide +kernel
theorem dX9_slide_86 : decode cX9_slide 86 = .ok (.iload_n 3, 1) := by decide +kernel
theorem dX9_slide_87 : decode cX9_slide 87 = .ok (.iaload, 1) := by decide +kernel
theorem dX9_slide_88 : decode cX9_slide 88 = .ok (.iload_n 2, 1) := by decide +kernel
theorem dX9_slide_89 : decode cX9_slide 89 = .ok (.iadd, 1) := by decide +kernel
theorem dX9_slide_90 : decode cX9_slide 90 = .ok (.bipush 99, 2) := by decide +kernel
theorem dX9_slide_92 : decode cX9_slide 92 = .ok (.invokestatic 147, 3) := by decide +kernel
theorem dX9_slide_95 : decode cX9_slide 95 = .ok (.iastore, 1) := by decide +kernel
theorem dX9_slide_96 : decode cX9_slide 96 = .ok (.aload_n 0, 1) := by decide +kernel
theorem dX9_slide_97 : decode cX9_slide 97 = .ok (.iconst 4, 1) := by decide +kernel
theorem dX9_slide_98 : decode cX9_slide 98 = .ok (.iload_n 1, 1) := by decide +kernel
theorem dX9_slide_99 : decode cX9_slide 99 = .ok (.iload_n 2, 1) := by decide +kernel
theorem dX9_slide_100 : decode cX9_slide 100 = .ok (.invokevirtual 177, 3) := by decide +kernel
theorem dX9_slide_103 : decode cX9_slide 103 = .ok (.iinc 1 1, 3) := by decide +kernel
theorem dX9_slide_106 : decode cX9_slide 106 = .ok (.goto (-104), 3) := by decide +kernel
theorem dX9_slide_109 : decode cX9_slide 109 = .ok (.return_, 1) := by decide +kernel
theorem dX9_meltAll_0 : decode cX9_meltAll 0 = .ok (.iconst (-1), 1) := by decide +kernel
theorem dX9_meltAll_1 : decode cX9_meltAll 1 = .ok (.istore_n 1, 1) := by decide +kernel
theorem dX9_meltAll_2 : decode cX9_meltAll 2 = .ok (.iconst 0, 1) := by decide +kernel
theorem dX9_meltAll_3 : decode cX9_meltAll 3 = .ok (.istore_n 2, 1) := by decide +kernel
theorem dX9_meltAll_4 : decode cX9_meltAll 4 = .ok (.iconst 0, 1) := by decide +kernel
theorem dX9_meltAll_5 : decode cX9_meltAll 5 = .ok (.istore_n 3, 1) := by decide +kernel
theorem dX9_meltAll_6 : decode cX9_meltAll 6 = .ok (.iload_n 3, 1) := by decide +kernel
theorem dX9_meltAll_7 : decode cX9_meltAll 7 = .ok (.bipush 56, 2) := by decide +kernel
theorem dX9_meltAll_9 : decode cX9_meltAll 9 = .ok (.if_icmp .ge 61, 3) := by decide +kernel
theorem dX9_meltAll_12 : decode cX9_meltAll 12 = .ok (.aload_n 0, 1) := by decide +kernel
theorem dX9_meltAll_13 : decode cX9_meltAll 13 = .ok (.iload_n 3, 1) := by decide +kernel
theorem dX9_meltAll_14 : decode cX9_meltAll 14 = .ok (.invokevirtual 110, 3) := by decide +kernel
theorem dX9_meltAll_17 : decode cX9_meltAll 17 = .ok (.ifCond .ne 6, 3) := by decide +kernel
theorem dX9_meltAll_20 : decode cX9_meltAll 20 = .ok (.goto 44, 3) := by decide +kernel
theorem dX9_meltAll_23 : decode cX9_meltAll 23 = .ok (.aload_n 0, 1) := by decide +kernel
theorem dX9_meltAll_24 : decode cX9_meltAll 24 = .ok (.getfield 9, 3) := by decide +kernel
theorem dX9_meltAll_27 : decode cX9_meltAll 27 = .ok (.iload_n 3, 1) := by decide +kernel
theorem dX9_meltAll_28 : decode cX9_meltAll 28 = .ok (.iaload, 1) := by decide +kernel
theorem dX9_meltAll_29 : decode cX9_meltAll 29 = .ok (.iload_n 1, 1) := by decide +kernel
theorem dX9_meltAll_30 : decode cX9_meltAll 30 = .ok (.if_icmp .eq 16, 3) := by decide +kernel
theorem dX9_meltAll_33 : decode cX9_meltAll 33 = .ok (.aload_n 0, 1) := by decide +kernel
theorem dX9_meltAll_34 : decode cX9_meltAll 34 = .ok (.getfield 9, 3) := by decide +kernel
theorem dX9_meltAll_37 : decode cX9_meltAll 37 = .ok (.iload_n 3, 1) := by decide +kernel
theorem dX9_meltAll_38 : decode cX9_meltAll 38 = .ok (.iaload, 1) := by decide +kernel
theorem dX9_meltAll_39 : decode cX9_meltAll 39 = .ok (.istore_n 1, 1) := by decide +kernel
theorem dX9_meltAll_40 : decode cX9_meltAll 40 = .ok (.aload_n 0, 1) := by decide +kernel
theorem dX9_meltAll_41 : decode cX9_meltAll 41 = .ok (.iload_n 1, 1) := by decide +kernel
theorem dX9_meltAll_42 : decode cX9_meltAll 42 = .ok (.invokevirtual 205, 3) := by decide +kernel
theorem dX9_meltAll_45 : decode cX9_meltAll 45 = .ok (.istore_n 2, 1) := by decide +kernel
theorem dX9_meltAll_46 : decode cX9_meltAll 46 = .ok (.aload_n 0, 1) := by decide +kernel
theorem dX9_meltAll_47 : decode cX9_meltAll 47 = .ok (.getfield 9, 3) := by decide +kernel
theorem dX9_meltAll_50 : decode cX9_meltAll 50 = .ok (.iload_n 3, 1) := by decide +kernel
theorem dX9_meltAll_51 : decode cX9_meltAll 51 = .ok (.iconst 0, 1) := by decide +kernel
theorem dX9_meltAll_52 : decode cX9_meltAll 52 = .ok (.aload_n 0, 1) := by decide +kernel
theorem dX9_meltAll_53 : decode cX9_meltAll 53 = .ok (.getfield 9, 3) := by decide +kernel
theorem dX9_meltAll_56 : decode cX9_meltAll 56 = .ok (.iload_n 3, 1) := by decide +kernel
theorem dX9_meltAll_57 : decode cX9_meltAll 57 = .ok (.iaload, 1) := by decide +kernel
theorem dX9_meltAll_58 : decode cX9_meltAll 58 = .ok (.iload_n 2, 1) := by decide +kernel
theorem dX9_meltAll_59 : decode cX9_meltAll 59 = .ok (.isub, 1) := by decide +kernel
theorem dX9_meltAll_60 : decode cX9_meltAll 60 = .ok (.invokestatic 208, 3) := by decide +kernel
theorem dX9_meltAll_63 : decode cX9_meltAll 63 = .ok (.iastore, 1) := by decide +kernel
theorem dX9_meltAll_64 : decode cX9_meltAll 64 = .ok (.iinc 3 1, 3) := by decide +kernel
theorem dX9_meltAll_67 : decode cX9_meltAll 67 = .ok (.goto (-61), 3) := by decide +kernel
theorem dX9_meltAll_70 : decode cX9_meltAll 70 = .ok (.return_, 1) := by decide +kernel
theorem dX9_firstVoid_0 : decode cX9_firstVoid 0 = .ok (.aload_n 0, 1) := by decide +kernel
theorem dX9_firstVoid_1 : decode cX9_firstVoid 1 = .ok (.getfield 21, 3) := by decide +kernel
theorem dX9_firstVoid_4 : decode cX9_firstVoid 4 = .ok (.invokevirtual 211, 3) := by decide +kernel
theorem dX9_firstVoid_7 : decode cX9_firstVoid 7 = .ok (.istore_n 1, 1) := by decide +kernel
theorem dX9_firstVoid_8 : decode cX9_firstVoid 8 = .ok (.aload_n 0, 1) := by decide +kernel
theorem dX9_firstVoid_9 : decode cX9_firstVoid 9 = .ok (.getfield 37, 3) := by decide +kernel
theorem dX9_firstVoid_12 : decode cX9_firstVoid 12 = .ok (.iconst 0, 1) := by decide +kernel
theorem dX9_firstVoid_13 : decode cX9_firstVoid 13 = .ok (.invokevirtual 214, 3) := by decide +kernel
theorem dX9_firstVoid_16 : decode cX9_firstVoid 16 = .ok (.istore_n 2, 1) := by decide +kernel
theorem dX9_firstVoid_17 : decode cX9_firstVoid 17 = .ok (.aload_n 0, 1) := by decide +kernel
theorem dX9_firstVoid_18 : decode cX9_firstVoid 18 = .ok (.getfield 79, 3) := by decide +kernel
theorem dX9_firstVoid_21 : decode cX9_firstVoid 21 = .ok (.istore_n 3, 1) := by decide +kernel
theorem dX9_firstVoid_22 : decode cX9_firstVoid 22 = .ok (.iload_n 3, 1) := by decide +kernel
theorem dX9_firstVoid_23 : decode cX9_firstVoid 23 = .ok (.iload_n 2, 1) := by decide +kernel
theorem dX9_firstVoid_24 : decode cX9_firstVoid 24 = .ok (.if_icmp .gt 89, 3) := by decide +kernel
theorem dX9_firstVoid_27 : decode cX9_firstVoid 27 = .ok (.iconst 0, 1) := by decide +kernel
theorem dX9_firstVoid_28 : decode cX9_firstVoid 28 = .ok (.istore 4, 2) := by decide +kernel
theorem dX9_firstVoid_30 : decode cX9_firstVoid 30 = .ok (.iload 4, 2) := by decide +kernel
theorem dX9_firstVoid_32 : decode cX9_firstVoid 32 = .ok (.aload_n 0, 1) := by decide +kernel
theorem dX9_firstVoid_33 : decode cX9_firstVoid 33 = .ok (.getfield 37, 3) := by decide +kernel
theorem dX9_firstVoid_36 : decode cX9_firstVoid 36 = .ok (.getfield 88, 3) := by decide +kernel
theorem dX9_firstVoid_39 : decode cX9_firstVoid 39 = .ok (.if_icmp .ge 68, 3) := by decide +kernel
theorem dX9_firstVoid_42 : decode cX9_firstVoid 42 = .ok (.aload_n 0, 1) := by decide +kernel
theorem dX9_firstVoid_43 : decode cX9_firstVoid 43 = .ok (.getfield 37, 3) := by decide +kernel
theorem dX9_firstVoid_46 : decode cX9_firstVoid 46 = .ok (.iload 4, 2) := by decide +kernel
theorem dX9_firstVoid_48 : decode cX9_firstVoid 48 = .ok (.iconst 0, 1) := by decide +kernel
theorem dX9_firstVoid_49 : decode cX9_firstVoid 49 = .ok (.invokevirtual 150, 3) := by decide +kernel
theorem dX9_firstVoid_52 : decode cX9_firstVoid 52 = .ok (.iload_n 3, 1) := by decide +kernel
theorem dX9_firstVoid_53 : decode cX9_firstVoid 53 = .ok (.if_icmp .eq 6, 3) := by decide +kernel
theorem dX9_firstVoid_56 : decode cX9_firstVoid 56 = .ok (.goto 45, 3) := by decide +kernel
theorem dX9_firstVoid_59 : decode cX9_firstVoid 59 = .ok (.iconst 1, 1) := by decide +kernel
theorem dX9_firstVoid_60 : decode cX9_firstVoid 60 = .ok (.aload_n 0, 1) := by decide +kernel
theorem dX9_firstVoid_61 : decode cX9_firstVoid 61 = .ok (.getfield 37, 3) := by decide +kernel
theorem dX9_firstVoid_64 : decode cX9_firstVoid 64 = .ok (.iload 4, 2) := by decide +kernel
theorem dX9_firstVoid_66 : decode cX9_firstVoid 66 = .ok (.iconst 1, 1) := by decide +kernel
theorem dX9_firstVoid_67 : decode cX9_firstVoid 67 = .ok (.invokevirtual 150, 3) := by decide +kernel
theorem dX9_firstVoid_70 : decode cX9_firstVoid 70 = .ok (.ishl, 1) := by decide +kernel
theorem dX9_firstVoid_71 : decode cX9_firstVoid 71 = .ok (.iconst 1, 1) := by decide +kernel
theorem dX9_firstVoid_72 : decode cX9_firstVoid 72 = .ok (.aload_n 0, 1) := by decide +kernel
theorem dX9_firstVoid_73 : decode cX9_firstVoid 73 = .ok (.getfield 37, 3) := by decide +kernel
theorem dX9_firstVoid_76 : decode cX9_firstVoid 76 = .ok (.iload 4, 2) := by decide +kernel
theorem dX9_firstVoid_78 : decode cX9_firstVoid 78 = .ok (.iconst 2, 1) := by decide +kernel
theorem dX9_firstVoid_79 : decode cX9_firstVoid 79 = .ok (.invokevirtual 150, 3) := by decide +kernel
theorem dX9_firstVoid_82 : decode cX9_firstVoid 82 = .ok (.ishl, 1) := by decide +kernel
theorem dX9_firstVoid_83 : decode cX9_firstVoid 83 = .ok (.ior, 1) := by decide +kernel
theorem dX9_firstVoid_84 : decode cX9_firstVoid 84 = .ok (.istore 5, 2) := by decide +kernel
theorem dX9_firstVoid_86 : decode cX9_firstVoid 86 = .ok (.iload_n 1, 1) := by decide +kernel
theorem dX9_firstVoid_87 : decode cX9_firstVoid 87 = .ok (.iload 5, 2) := by decide +kernel
theorem dX9_firstVoid_89 : decode cX9_firstVoid 89 = .ok (.iand, 1) := by decide +kernel
theorem dX9_firstVoid_90 : decode cX9_firstVoid 90 = .ok (.ifCond .eq 6, 3) := by decide +kernel
theorem dX9_firstVoid_93 : decode cX9_firstVoid 93 = .ok (.iload 4, 2) := by decide +kernel
theorem dX9_firstVoid_95 : decode cX9_firstVoid 95 = .ok (.ireturn, 1) := by decide +kernel
theorem dX9_firstVoid_96 : decode cX9_firstVoid 96 = .ok (.iload_n 1, 1) := by decide +kernel
theorem dX9_firstVoid_97 : decode cX9_firstVoid 97 = .ok (.iload 5, 2) := by decide +kernel
theorem dX9_firstVoid_99 : decode cX9_firstVoid 99 = .ok (.ior, 1) := by decide +kernel
theorem dX9_firstVoid_100 : decode cX9_firstVoid 100 = .ok (.istore_n 1, 1) := by decide +kernel
theorem dX9_firstVoid_101 : decode cX9_firstVoid 101 = .ok (.iinc 4 1, 3) := by decide +kernel
theorem dX9_firstVoid_104 : decode cX9_firstVoid 104 = .ok (.goto (-74), 3) := by decide +kernel
theorem dX9_firstVoid_107 : decode cX9_firstVoid 107 = .ok (.iinc 3 1, 3) := by decide +kernel
theorem dX9_firstVoid_110 : decode cX9_firstVoid 110 = .ok (.goto (-88), 3) := by decide +kernel
theorem dX9_firstVoid_113 : decode cX9_firstVoid 113 = .ok (.iconst (-1), 1) := by decide +kernel
theorem dX9_firstVoid_114 : decode cX9_firstVoid 114 = .ok (.ireturn, 1) := by decide +kernel
theorem dX9_isBare_0 : decode cX9_isBare 0 = .ok (.aload_n 0, 1) := by decide +kernel
theorem dX9_isBare_1 : decode cX9_isBare 1 = .ok (.iload_n 1, 1) := by decide +kernel
theorem dX9_isBare_2 : decode cX9_isBare 2 = .ok (.invokevirtual 110, 3) := by decide +kernel
theorem dX9_isBare_5 : decode cX9_isBare 5 = .ok (.ifCond .eq 16, 3) := by decide +kernel
theorem dX9_isBare_8 : decode cX9_isBare 8 = .ok (.aload_n 0, 1) := by decide +kernel
theorem dX9_isBare_9 : decode cX9_isBare 9 = .ok (.getfield 9, 3) := by decide +kernel
theorem dX9_isBare_12 : decode cX9_isBare 12 = .ok (.iload_n 1, 1) := by decide +kernel
theorem dX9_isBare_13 : decode cX9_isBare 13 = .ok (.iaload, 1) := by decide +kernel
theorem dX9_isBare_14 : decode cX9_isBare 14 = .ok (.ifCond .ne 7, 3) := by decide +kernel
theorem dX9_isBare_17 : decode cX9_isBare 17 = .ok (.iconst 1, 1) := by decide +kernel
theorem dX9_isBare_18 : decode cX9_isBare 18 = .ok (.goto 4, 3) := by decide +kernel
theorem dX9_isBare_21 : decode cX9_isBare 21 = .ok (.iconst 0, 1) := by decide +kernel
theorem dX9_isBare_22 : decode cX9_isBare 22 = .ok (.ireturn, 1) := by decide +kernel
theorem dX9_unmetWant_0 : decode cX9_unmetWant 0 = .ok (.iconst 0, 1) := by decide +kernel
theorem dX9_unmetWant_1 : decode cX9_unmetWant 1 = .ok (.istore_n 2, 1) := by decide +kernel
theorem dX9_unmetWant_2 : decode cX9_unmetWant 2 = .ok (.iload_n 2, 1) := by decide +kernel
theorem dX9_unmetWant_3 : decode cX9_unmetWant 3 = .ok (.aload_n 0, 1) := by decide +kernel
theorem dX9_unmetWant_4 : decode cX9_unmetWant 4 = .ok (.getfield 44, 3) := by decide +kernel
theorem dX9_unmetWant_7 : decode cX9_unmetWant 7 = .ok (.getfield 88, 3) := by decide +kernel
theorem dX9_unmetWant_10 : decode cX9_unmetWant 10 = .ok (.if_icmp .ge 40, 3) := by decide +kernel
theorem dX9_unmetWant_13 : decode cX9_unmetWant 13 = .ok (.aload_n 0, 1) := by decide +kernel
theorem dX9_unmetWant_14 : decode cX9_unmetWant 14 = .ok (.getfield 44, 3) := by decide +kernel
theorem dX9_unmetWant_17 : decode cX9_unmetWant 17 = .ok (.iload_n 2, 1) := by decide +kernel
theorem dX9_unmetWant_18 : decode cX9_unmetWant 18 = .ok (.iconst 1, 1) := by decide +kernel
theorem dX9_unmetWant_19 : decode cX9_unmetWant 19 = .ok (.invokevirtual 150, 3) := by decide +kernel
theorem dX9_unmetWant_22 : decode cX9_unmetWant 22 = .ok (.iload_n 1, 1) := by decide +kernel
theorem dX9_unmetWant_23 : decode cX9_unmetWant 23 = .ok (.if_icmp .ne 21, 3) := by decide +kernel
theorem dX9_unmetWant_26 : decode cX9_unmetWant 26 = .ok (.aload_n 0, 1) := by decide +kernel
theorem dX9_unmetWant_27 : decode cX9_unmetWant 27 = .ok (.aload_n 0, 1) := by decide +kernel
theorem dX9_unmetWant_28 : decode cX9_unmetWant 28 = .ok (.getfield 44, 3) := by decide +kernel
theorem dX9_unmetWant_31 : decode cX9_unmetWant 31 = .ok (.iload_n 2, 1) := by decide +kernel
theorem dX9_unmetWant_32 : decode cX9_unmetWant 32 = .ok (.iconst 0, 1) := by decide +kernel
theorem dX9_unmetWant_33 : decode cX9_unmetWant 33 = .ok (.invokevirtual 150, 3) := by decide +kernel
theorem dX9_unmetWant_36 : decode cX9_unmetWant 36 = .ok (.invokevirtual 217, 3) := by decide +kernel
theorem dX9_unmetWant_39 : decode cX9_unmetWant 39 = .ok (.ifCond .ne 5, 3) := by decide +kernel
theorem dX9_unmetWant_42 : decode cX9_unmetWant 42 = .ok (.iload_n 2, 1) := by decide +kernel
theorem dX9_unmetWant_43 : decode cX9_unmetWant 43 = .ok (.ireturn, 1) := by decide +kernel
theorem dX9_unmetWant_44 : decode cX9_unmetWant 44 = .ok (.iinc 2 1, 3) := by decide +kernel
theorem dX9_unmetWant_47 : decode cX9_unmetWant 47 = .ok (.goto (-45), 3) := by decide +kernel
theorem dX9_unmetWant_50 : decode cX9_unmetWant 50 = .ok (.iconst (-1), 1) := by decide +kernel
theorem dX9_unmetWant_51 : decode cX9_unmetWant 51 = .ok (.ireturn, 1) := by decide +kernel
theorem dX9_worthMet_0 : decode cX9_worthMet 0 = .ok (.iconst 0, 1) := by decide +kernel
theorem dX9_worthMet_1 : decode cX9_worthMet 1 = .ok (.istore_n 2, 1) := by decide +kernel
theorem dX9_worthMet_2 : decode cX9_worthMet 2 = .ok (.iconst 0, 1) := by decide +kernel
theorem dX9_worthMet_3 : decode cX9_worthMet 3 = .ok (.istore_n 3, 1) := by decide +kernel
theorem dX9_worthMet_4 : decode cX9_worthMet 4 = .ok (.iload_n 3, 1) := by decide +kernel
theorem dX9_worthMet_5 : decode cX9_worthMet 5 = .ok (.aload_n 0, 1) := by decide +kernel
theorem dX9_worthMet_6 : decode cX9_worthMet 6 = .ok (.getfield 44, 3) := by decide +kernel
theorem dX9_worthMet_9 : decode cX9_worthMet 9 = .ok (.getfield 88, 3) := by decide +kernel
theorem dX9_worthMet_12 : decode cX9_worthMet 12 = .ok (.if_icmp .ge 50, 3) := by decide +kernel
theorem dX9_worthMet_15 : decode cX9_worthMet 15 = .ok (.aload_n 0, 1) := by decide +kernel
theorem dX9_worthMet_16 : decode cX9_worthMet 16 = .ok (.getfield 44, 3) := by decide +kernel
theorem dX9_worthMet_19 : decode cX9_worthMet 19 = .ok (.iload_n 3, 1) := by decide +kernel
theorem dX9_worthMet_20 : decode cX9_worthMet 20 = .ok (.iconst 1, 1) := by decide +kernel
theorem dX9_worthMet_21 : decode cX9_worthMet 21 = .ok (.invokevirtual 150, 3) := by decide +kernel
theorem dX9_worthMet_24 : decode cX9_worthMet 24 = .ok (.iload_n 1, 1) := by decide +kernel
theorem dX9_worthMet_25 : decode cX9_worthMet 25 = .ok (.if_icmp .ne 31, 3) := by decide +kernel
theorem dX9_worthMet_28 : decode cX9_worthMet 28 = .ok (.aload_n 0, 1) := by decide +kernel
theorem dX9_worthMet_29 : decode cX9_worthMet 29 = .ok (.aload_n 0, 1) := by decide +kernel
theorem dX9_worthMet_30 : decode cX9_worthMet 30 = .ok (.getfield 44, 3) := by decide +kernel
theorem dX9_worthMet_33 : decode cX9_worthMet 33 = .ok (.iload_n 3, 1) := by decide +kernel
theorem dX9_worthMet_34 : decode cX9_worthMet 34 = .ok (.iconst 0, 1) := by decide +kernel
theorem dX9_worthMet_35 : decode cX9_worthMet 35 = .ok (.invokevirtual 150, 3) := by decide +kernel
theorem dX9_worthMet_38 : decode cX9_worthMet 38 = .ok (.invokevirtual 217, 3) := by decide +kernel
theorem dX9_worthMet_41 : decode cX9_worthMet 41 = .ok (.ifCond .eq 15, 3) := by decide +kernel
theorem dX9_worthMet_44 : decode cX9_worthMet 44 = .ok (.iload_n 2, 1) := by decide +kernel
theorem dX9_worthMet_45 : decode cX9_worthMet 45 = .ok (.aload_n 0, 1) := by decide +kernel
theorem dX9_worthMet_46 : decode cX9_worthMet 46 = .ok (.getfield 44, 3) := by decide +kernel
theorem dX9_worthMet_49 : decode cX9_worthMet 49 = .ok (.iload_n 3, 1) := by decide +kernel
theorem dX9_worthMet_50 : decode cX9_worthMet 50 = .ok (.iconst 2, 1) := by decide +kernel
theorem dX9_worthMet_51 : decode cX9_worthMet 51 = .ok (.invokevirtual 150, 3) := by decide +kernel
theorem dX9_worthMet_54 : decode cX9_worthMet 54 = .ok (.iadd, 1) := by decide +kernel
theorem dX9_worthMet_55 : decode cX9_worthMet 55 = .ok (.istore_n 2, 1) := by decide +kernel
theorem dX9_worthMet_56 : decode cX9_worthMet 56 = .ok (.iinc 3 1, 3) := by decide +kernel
theorem dX9_worthMet_59 : decode cX9_worthMet 59 = .ok (.goto (-55), 3) := by decide +kernel
theorem dX9_worthMet_62 : decode cX9_worthMet 62 = .ok (.iload_n 2, 1) := by decide +kernel
theorem dX9_worthMet_63 : decode cX9_worthMet 63 = .ok (.ireturn, 1) := by decide +kernel
theorem dX9_worthBare_0 : decode cX9_worthBare 0 = .ok (.iconst 0, 1) := by decide +kernel
theorem dX9_worthBare_1 : decode cX9_worthBare 1 = .ok (.istore_n 1, 1) := by decide +kernel
theorem dX9_worthBare_2 : decode cX9_worthBare 2 = .ok (.iconst 0, 1) := by decide +kernel
theorem dX9_worthBare_3 : decode cX9_worthBare 3 = .ok (.istore_n 2, 1) := by decide +kernel
theorem dX9_worthBare_4 : decode cX9_worthBare 4 = .ok (.iload_n 2, 1) := by decide +kernel
theorem dX9_worthBare_5 : decode cX9_worthBare 5 = .ok (.aload_n 0, 1) := by decide +kernel
theorem dX9_worthBare_6 : decode cX9_worthBare 6 = .ok (.getfield 44, 3) := by decide +kernel
theorem dX9_worthBare_9 : decode cX9_worthBare 9 = .ok (.getfield 88, 3) := by decide +kernel
theorem dX9_worthBare_12 : decode cX9_worthBare 12 = .ok (.if_icmp .ge 37, 3) := by decide +kernel
theorem dX9_worthBare_15 : decode cX9_worthBare 15 = .ok (.aload_n 0, 1) := by decide +kernel
theorem dX9_worthBare_16 : decode cX9_worthBare 16 = .ok (.aload_n 0, 1) := by decide +kernel
theorem dX9_worthBare_17 : decode cX9_worthBare 17 = .ok (.getfield 44, 3) := by decide +kernel
theorem dX9_worthBare_20 : decode cX9_worthBare 20 = .ok (.iload_n 2, 1) := by decide +kernel
theorem dX9_worthBare_21 : decode cX9_worthBare 21 = .ok (.iconst 0, 1) := by decide +kernel
theorem dX9_worthBare_22 : decode cX9_worthBare 22 = .ok (.invokevirtual 150, 3) := by decide +kernel
theorem dX9_worthBare_25 : decode cX9_worthBare 25 = .ok (.invokevirtual 217, 3) := by decide +kernel
theorem dX9_worthBare_28 : decode cX9_worthBare 28 = .ok (.ifCond .eq 15, 3) := by decide +kernel
theorem dX9_worthBare_31 : decode cX9_worthBare 31 = .ok (.iload_n 1, 1) := by decide +kernel
theorem dX9_worthBare_32 : decode cX9_worthBare 32 = .ok (.aload_n 0, 1) := by decide +kernel
theorem dX9_worthBare_33 : decode cX9_worthBare 33 = .ok (.getfield 44, 3) := by decide +kernel
theorem dX9_worthBare_36 : decode cX9_worthBare 36 = .ok (.iload_n 2, 1) := by decide +kernel
theorem dX9_worthBare_37 : decode cX9_worthBare 37 = .ok (.iconst 2, 1) := by decide +kernel
theorem dX9_worthBare_38 : decode cX9_worthBare 38 = .ok (.invokevirtual 150, 3) := by decide +kernel
theorem dX9_worthBare_41 : decode cX9_worthBare 41 = .ok (.iadd, 1) := by decide +kernel
theorem dX9_worthBare_42 : decode cX9_worthBare 42 = .ok (.istore_n 1, 1) := by decide +kernel
theorem dX9_worthBare_43 : decode cX9_worthBare 43 = .ok (.iinc 2 1, 3) := by decide +kernel
theorem dX9_worthBare_46 : decode cX9_worthBare 46 = .ok (.goto (-42), 3) := by decide +kernel
theorem dX9_worthBare_49 : decode cX9_worthBare 49 = .ok (.iload_n 1, 1) := by decide +kernel
theorem dX9_worthBare_50 : decode cX9_worthBare 50 = .ok (.ireturn, 1) := by decide +kernel
theorem dX9_whoCanBe_0 : decode cX9_whoCanBe 0 = .ok (.iconst 0, 1) := by decide +kernel
theorem dX9_whoCanBe_1 : decode cX9_whoCanBe 1 = .ok (.istore_n 2, 1) := by decide +kernel
theorem dX9_whoCanBe_2 : decode cX9_whoCanBe 2 = .ok (.iconst 0, 1) := by decide +kernel
theorem dX9_whoCanBe_3 : decode cX9_whoCanBe 3 = .ok (.istore_n 3, 1) := by decide +kernel
theorem dX9_whoCanBe_4 : decode cX9_whoCanBe 4 = .ok (.iload_n 3, 1) := by decide +kernel
theorem dX9_whoCanBe_5 : decode cX9_whoCanBe 5 = .ok (.aload_n 0, 1) := by decide +kernel
theorem dX9_whoCanBe_6 : decode cX9_whoCanBe 6 = .ok (.getfield 21, 3) := by decide +kernel
theorem dX9_whoCanBe_9 : decode cX9_whoCanBe 9 = .ok (.getfield 82, 3) := by decide +kernel
theorem dX9_whoCanBe_12 : decode cX9_whoCanBe 12 = .ok (.if_icmp .ge 50, 3) := by decide +kernel
theorem dX9_whoCanBe_15 : decode cX9_whoCanBe 15 = .ok (.aload_n 0, 1) := by decide +kernel
theorem dX9_whoCanBe_16 : decode cX9_whoCanBe 16 = .ok (.getfield 21, 3) := by decide +kernel
theorem dX9_whoCanBe_19 : decode cX9_whoCanBe 19 = .ok (.getfield 220, 3) := by decide +kernel
theorem dX9_whoCanBe_22 : decode cX9_whoCanBe 22 = .ok (.iload_n 3, 1) := by decide +kernel
theorem dX9_whoCanBe_23 : decode cX9_whoCanBe 23 = .ok (.iaload, 1) := by decide +kernel
theorem dX9_whoCanBe_24 : decode cX9_whoCanBe 24 = .ok (.aload_n 0, 1) := by decide +kernel
theorem dX9_whoCanBe_25 : decode cX9_whoCanBe 25 = .ok (.getfield 21, 3) := by decide +kernel
theorem dX9_whoCanBe_28 : decode cX9_whoCanBe 28 = .ok (.getfield 220, 3) := by decide +kernel
theorem dX9_whoCanBe_31 : decode cX9_whoCanBe 31 = .ok (.iload_n 1, 1) := by decide +kernel
theorem dX9_whoCanBe_32 : decode cX9_whoCanBe 32 = .ok (.iaload, 1) := by decide +kernel
theorem dX9_whoCanBe_33 : decode cX9_whoCanBe 33 = .ok (.if_icmp .eq 23, 3) := by decide +kernel
theorem dX9_whoCanBe_36 : decode cX9_whoCanBe 36 = .ok (.aload_n 0, 1) := by decide +kernel
theorem dX9_whoCanBe_37 : decode cX9_whoCanBe 37 = .ok (.iload_n 1, 1) := by decide +kernel
theorem dX9_whoCanBe_38 : decode cX9_whoCanBe 38 = .ok (.aload_n 0, 1) := by decide +kernel
theorem dX9_whoCanBe_39 : decode cX9_whoCanBe 39 = .ok (.iload_n 1, 1) := by decide +kernel
theorem dX9_whoCanBe_40 : decode cX9_whoCanBe 40 = .ok (.iload_n 3, 1) := by decide +kernel
theorem dX9_whoCanBe_41 : decode cX9_whoCanBe 41 = .ok (.invokevirtual 157, 3) := by decide +kernel
theorem dX9_whoCanBe_44 : decode cX9_whoCanBe 44 = .ok (.invokevirtual 223, 3) := by decide +kernel
theorem dX9_whoCanBe_47 : decode cX9_whoCanBe 47 = .ok (.ifCond .eq 9, 3) := by decide +kernel
theorem dX9_whoCanBe_50 : decode cX9_whoCanBe 50 = .ok (.iload_n 2, 1) := by decide +kernel
theorem dX9_whoCanBe_51 : decode cX9_whoCanBe 51 = .ok (.iconst 1, 1) := by decide +kernel
theorem dX9_whoCanBe_52 : decode cX9_whoCanBe 52 = .ok (.iload_n 3, 1) := by decide +kernel
theorem dX9_whoCanBe_53 : decode cX9_whoCanBe 53 = .ok (.ishl, 1) := by decide +kernel
theorem dX9_whoCanBe_54 : decode cX9_whoCanBe 54 = .ok (.ior, 1) := by decide +kernel
theorem dX9_whoCanBe_55 : decode cX9_whoCanBe 55 = .ok (.istore_n 2, 1) := by decide +kernel
theorem dX9_whoCanBe_56 : decode cX9_whoCanBe 56 = .ok (.iinc 3 1, 3) := by decide +kernel
theorem dX9_whoCanBe_59 : decode cX9_whoCanBe 59 = .ok (.goto (-55), 3) := by decide +kernel
theorem dX9_whoCanBe_62 : decode cX9_whoCanBe 62 = .ok (.iload_n 2, 1) := by decide +kernel
theorem dX9_whoCanBe_63 : decode cX9_whoCanBe 63 = .ok (.ireturn, 1) := by decide +kernel
theorem dX9_allStirsFit_0 : decode cX9_allStirsFit 0 = .ok (.iconst 0, 1) := by decide +kernel
theorem dX9_allStirsFit_1 : decode cX9_allStirsFit 1 = .ok (.istore_n 3, 1) := by decide +kernel
theorem dX9_allStirsFit_2 : decode cX9_allStirsFit 2 = .ok (.iload_n 3, 1) := by decide +kernel
theorem dX9_allStirsFit_3 : decode cX9_allStirsFit 3 = .ok (.aload_n 0, 1) := by decide +kernel
theorem dX9_allStirsFit_4 : decode cX9_allStirsFit 4 = .ok (.getfield 47, 3) := by decide +kernel
theorem dX9_allStirsFit_7 : decode cX9_allStirsFit 7 = .ok (.getfield 88, 3) := by decide +kernel
theorem dX9_allStirsFit_10 : decode cX9_allStirsFit 10 = .ok (.if_icmp .ge 66, 3) := by decide +kernel
theorem dX9_allStirsFit_13 : decode cX9_allStirsFit 13 = .ok (.aload_n 0, 1) := by decide +kernel
theorem dX9_allStirsFit_14 : decode cX9_allStirsFit 14 = .ok (.getfield 47, 3) := by decide +kernel
theorem dX9_allStirsFit_17 : decode cX9_allStirsFit 17 = .ok (.iload_n 3, 1) := by decide +kernel
theorem dX9_allStirsFit_18 : decode cX9_allStirsFit 18 = .ok (.iconst 0, 1) := by decide +kernel
theorem dX9_allStirsFit_19 : decode cX9_allStirsFit 19 = .ok (.invokevirtual 150, 3) := by decide +kernel
theorem dX9_allStirsFit_22 : decode cX9_allStirsFit 22 = .ok (.iload_n 1, 1) := by decide +kernel
theorem dX9_allStirsFit_23 : decode cX9_allStirsFit 23 = .ok (.if_icmp .eq 6, 3) := by decide +kernel
theorem dX9_allStirsFit_26 : decode cX9_allStirsFit 26 = .ok (.goto 44, 3) := by decide +kernel
theorem dX9_allStirsFit_29 : decode cX9_allStirsFit 29 = .ok (.aload_n 0, 1) := by decide +kernel
theorem dX9_allStirsFit_30 : decode cX9_allStirsFit 30 = .ok (.getfield 47, 3) := by decide +kernel
theorem dX9_allStirsFit_33 : decode cX9_allStirsFit 33 = .ok (.iload_n 3, 1) := by decide +kernel
theorem dX9_allStirsFit_34 : decode cX9_allStirsFit 34 = .ok (.iconst 1, 1) := by decide +kernel
theorem dX9_allStirsFit_35 : decode cX9_allStirsFit 35 = .ok (.invokevirtual 150, 3) := by decide +kernel
theorem dX9_allStirsFit_38 : decode cX9_allStirsFit 38 = .ok (.istore 4, 2) := by decide +kernel
theorem dX9_allStirsFit_40 : decode cX9_allStirsFit 40 = .ok (.aload_n 0, 1) := by decide +kernel
theorem dX9_allStirsFit_41 : decode cX9_allStirsFit 41 = .ok (.getfield 47, 3) := by decide +kernel
theorem dX9_allStirsFit_44 : decode cX9_allStirsFit 44 = .ok (.iload_n 3, 1) := by decide +kernel
theorem dX9_allStirsFit_45 : decode cX9_allStirsFit 45 = .ok (.iconst 2, 1) := by decide +kernel
theorem dX9_allStirsFit_46 : decode cX9_allStirsFit 46 = .ok (.invokevirtual 150, 3) := by decide +kernel
theorem dX9_allStirsFit_49 : decode cX9_allStirsFit 49 = .ok (.iconst 1, 1) := by decide +kernel
theorem dX9_allStirsFit_50 : decode cX9_allStirsFit 50 = .ok (.if_icmp .ne 12, 3) := by decide +kernel
theorem dX9_allStirsFit_53 : decode cX9_allStirsFit 53 = .ok (.iload_n 2, 1) := by decide +kernel
theorem dX9_allStirsFit_54 : decode cX9_allStirsFit 54 = .ok (.iload 4, 2) := by decide +kernel
theorem dX9_allStirsFit_56 : decode cX9_allStirsFit 56 = .ok (.if_icmp .ge 14, 3) := by decide +kernel
theorem dX9_allStirsFit_59 : decode cX9_allStirsFit 59 = .ok (.goto 9, 3) := by decide +kernel
theorem dX9_allStirsFit_62 : decode cX9_allStirsFit 62 = .ok (.iload_n 2, 1) := by decide +kernel
theorem dX9_allStirsFit_63 : decode cX9_allStirsFit 63 = .ok (.iload 4, 2) := by decide +kernel
theorem dX9_allStirsFit_65 : decode cX9_allStirsFit 65 = .ok (.if_icmp .eq 5, 3) := by decide +kernel
theorem dX9_allStirsFit_68 : decode cX9_allStirsFit 68 = .ok (.iconst 0, 1) := by decide +kernel
theorem dX9_allStirsFit_69 : decode cX9_allStirsFit 69 = .ok (.ireturn, 1) := by decide +kernel
theorem dX9_allStirsFit_70 : decode cX9_allStirsFit 70 = .ok (.iinc 3 1, 3) := by decide +kernel
theorem dX9_allStirsFit_73 : decode cX9_allStirsFit 73 = .ok (.goto (-71), 3) := by decide +kernel
theorem dX9_allStirsFit_76 : decode cX9_allStirsFit 76 = .ok (.iconst 1, 1) := by decide +kernel
theorem dX9_allStirsFit_77 : decode cX9_allStirsFit 77 = .ok (.ireturn, 1) := by decide +kernel
theorem dX10_init_0 : decode cX10_init 0 = .ok (.aload_n 0, 1) := by decide +kernel
theorem dX10_init_1 : decode cX10_init 1 = .ok (.invokespecial 3, 3) := by decide +kernel
theorem dX10_init_4 : decode cX10_init 4 = .ok (.aload_n 0, 1) := by decide +kernel
theorem dX10_init_5 : decode cX10_init 5 = .ok (.new 9, 3) := by decide +kernel
theorem dX10_init_8 : decode cX10_init 8 = .ok (.dup, 1) := by decide +kernel
theorem dX10_init_9 : decode cX10_init 9 = .ok (.sipush 150, 3) := by decide +kernel
theorem dX10_init_12 : decode cX10_init 12 = .ok (.invokespecial 11, 3) := by decide +kernel
theorem dX10_init_15 : decode cX10_init 15 = .ok (.putfield 14, 3) := by decide +kernel
theorem dX10_init_18 : decode cX10_init 18 = .ok (.aload_n 0, 1) := by decide +kernel
theorem dX10_init_19 : decode cX10_init 19 = .ok (.new 9, 3) := by decide +kernel
theorem dX10_init_22 : decode cX10_init 22 = .ok (.dup, 1) := by decide +kernel
theorem dX10_init_23 : decode cX10_init 23 = .ok (.iconst 0, 1) := by decide +kernel
theorem dX10_init_24 : decode cX10_init 24 = .ok (.invokespecial 11, 3) := by decide +kernel
theorem dX10_init_27 : decode cX10_init 27 = .ok (.putfield 18, 3) := by decide +kernel
theorem dX10_init_30 : decode cX10_init 30 = .ok (.aload_n 0, 1) := by decide +kernel
theorem dX10_init_31 : decode cX10_init 31 = .ok (.aconst_null, 1) := by decide +kernel
theorem dX10_init_32 : decode cX10_init 32 = .ok (.putfield 21, 3) := by decide +kernel
theorem dX10_init_35 : decode cX10_init 35 = .ok (.aload_n 0, 1) := by decide +kernel
theorem dX10_init_36 : decode cX10_init 36 = .ok (.new 24, 3) := by decide +kernel
theorem dX10_init_39 : decode cX10_init 39 = .ok (.dup, 1) := by decide +kernel
theorem dX10_init_40 : decode cX10_init 40 = .ok (.invokespecial 26, 3) := by decide +kernel
theorem dX10_init_43 : decode cX10_init 43 = .ok (.putfield 27, 3) := by decide +kernel
theorem dX10_init_46 : decode cX10_init 46 = .ok (.aload_n 0, 1) := by decide +kernel
theorem dX10_init_47 : decode cX10_init 47 = .ok (.new 31, 3) := by decide +kernel
theorem dX10_init_50 : decode cX10_init 50 = .ok (.dup, 1) := by decide +kernel
theorem dX10_init_51 : decode cX10_init 51 = .ok (.invokespecial 33, 3) := by decide +kernel
theorem dX10_init_54 : decode cX10_init 54 = .ok (.putfield 34, 3) := by decide +kernel
theorem dX10_init_57 : decode cX10_init 57 = .ok (.aload_n 0, 1) := by decide +kernel
theorem dX10_init_58 : decode cX10_init 58 = .ok (.new 38, 3) := by decide +kernel
theorem dX10_init_61 : decode cX10_init 61 = .ok (.dup, 1) := by decide +kernel
theorem dX10_init_62 : decode cX10_init 62 = .ok (.aload_n 0, 1) := by decide +kernel
theorem dX10_init_63 : decode cX10_init 63 = .ok (.getfield 34, 3) := by decide +kernel
theorem dX10_init_66 : decode cX10_init 66 = .ok (.aload_n 0, 1) := by decide +kernel
theorem dX10_init_67 : decode cX10_init 67 = .ok (.getfield 14, 3) := by decide +kernel
theorem dX10_init_70 : decode cX10_init 70 = .ok (.aload_n 0, 1) := by decide +kernel
theorem dX10_init_71 : decode cX10_init 71 = .ok (.getfield 18, 3) := by decide +kernel
theorem dX10_init_74 : decode cX10_init 74 = .ok (.invokespecial 40, 3) := by decide +kernel
theorem dX10_init_77 : decode cX10_init 77 = .ok (.putfield 43, 3) := by decide +kernel
theorem dX10_init_80 : decode cX10_init 80 = .ok (.aload_n 0, 1) := by decide +kernel
theorem dX10_init_81 : decode cX10_init 81 = .ok (.new 47, 3) := by decide +kernel
theorem dX10_init_84 : decode cX10_init 84 = .ok (.dup, 1) := by decide +kernel
theorem dX10_init_85 : decode cX10_init 85 = .ok (.invokespecial 49, 3) := by decide +kernel
theorem dX10_init_88 : decode cX10_init 88 = .ok (.putfield 50, 3) := by decide +kernel
theorem dX10_init_91 : decode cX10_init 91 = .ok (.aload_n 0, 1) := by decide +kernel
theorem dX10_init_92 : decode cX10_init 92 = .ok (.new 54, 3) := by decide +kernel
theorem dX10_init_95 : decode cX10_init 95 = .ok (.dup, 1) := by decide +kernel
theorem dX10_init_96 : decode cX10_init 96 = .ok (.invokespecial 56, 3) := by decide +kernel
theorem dX10_init_99 : decode cX10_init 99 = .ok (.putfield 57, 3) := by decide +kernel
theorem dX10_init_102 : decode cX10_init 102 = .ok (.aload_n 0, 1) := by decide +kernel
theorem dX10_init_103 : decode cX10_init 103 = .ok (.new 61, 3) := by decide +kernel
theorem dX10_init_106 : decode cX10_init 106 = .ok (.dup, 1) := by decide +kernel
theorem dX10_init_107 : decode cX10_init 107 = .ok (.invokespecial 63, 3) := by decide +kernel
theorem dX10_init_110 : decode cX10_init 110 = .ok (.putfield 64, 3) := by decide +kernel
theorem dX10_init_113 : decode cX10_init 113 = .ok (.return_, 1) := by decide +kernel
theorem dX10_state_0 : decode cX10_state 0 = .ok (.aload_n 0, 1) := by decide +kernel
theorem dX10_state_1 : decode cX10_state 1 = .ok (.getfield 14, 3) := by decide +kernel
theorem dX10_state_4 : decode cX10_state 4 = .ok (.getfield 68, 3) := by decide +kernel
theorem dX10_state_7 : decode cX10_state 7 = .ok (.istore_n 2, 1) := by decide +kernel
theorem dX10_state_8 : decode cX10_state 8 = .ok (.aload_n 0, 1) := by decide +kernel
theorem dX10_state_9 : decode cX10_state 9 = .ok (.getfield 14, 3) := by decide +kernel
theorem dX10_state_12 : decode cX10_state 12 = .ok (.iload_n 1, 1) := by decide +kernel
theorem dX10_state_13 : decode cX10_state 13 = .ok (.putfield 68, 3) := by decide +kernel
theorem dX10_state_16 : decode cX10_state 16 = .ok (.aload_n 0, 1) := by decide +kernel
theorem dX10_state_17 : decode cX10_state 17 = .ok (.getfield 27, 3) := by decide +kernel
theorem dX10_state_20 : decode cX10_state 20 = .ok (.iconst 0, 1) := by decide +kernel
theorem dX10_state_21 : decode cX10_state 21 = .ok (.putfield 72, 3) := by decide +kernel
theorem dX10_state_24 : decode cX10_state 24 = .ok (.iload_n 2, 1) := by decide +kernel
theorem dX10_state_25 : decode cX10_state 25 = .ok (.ireturn, 1) := by decide +kernel
theorem dX10_valley_0 : decode cX10_valley 0 = .ok (.iload_n 1, 1) := by decide +kernel
theorem dX10_valley_1 : decode cX10_valley 1 = .ok (.iconst 3, 1) := by decide +kernel
theorem dX10_valley_2 : decode cX10_valley 2 = .ok (.if_icmp .lt 20, 3) := by decide +kernel
theorem dX10_valley_5 : decode cX10_valley 5 = .ok (.iload_n 1, 1) := by decide +kernel
theorem dX10_valley_6 : decode cX10_valley 6 = .ok (.bipush 8, 2) := by decide +kernel
theorem dX10_valley_8 : decode cX10_valley 8 = .ok (.if_icmp .gt 14, 3) := by decide +kernel
theorem dX10_valley_11 : decode cX10_valley 11 = .ok (.iload_n 2, 1) := by decide +kernel
theorem dX10_valley_12 : decode cX10_valley 12 = .ok (.iconst 3, 1) := by decide +kernel
theorem dX10_valley_13 : decode cX10_valley 13 = .ok (.if_icmp .lt 9, 3) := by decide +kernel
theorem dX10_valley_16 : decode cX10_valley 16 = .ok (.iload_n 2, 1) := by decide +kernel
theorem dX10_valley_17 : decode cX10_valley 17 = .ok (.bipush 7, 2) := by decide +kernel
theorem dX10_valley_19 : decode cX10_valley 19 = .ok (.if_icmp .le 5, 3) := by decide +kernel
theorem dX10_valley_22 : decode cX10_valley 22 = .ok (.iconst 0, 1) := by decide +kernel
theorem dX10_valley_23 : decode cX10_valley 23 = .ok (.ireturn, 1) := by decide +kernel
theorem dX10_valley_24 : decode cX10_valley 24 = .ok (.aload_n 0, 1) := by decide +kernel
theorem dX10_valley_25 : decode cX10_valley 25 = .ok (.getfield 14, 3) := by decide +kernel
theorem dX10_valley_28 : decode cX10_valley 28 = .ok (.iload_n 1, 1) := by decide +kernel
theorem dX10_valley_29 : decode cX10_valley 29 = .ok (.iload_n 2, 1) := by decide +kernel
theorem dX10_valley_30 : decode cX10_valley 30 = .ok (.invokevirtual 75, 3) := by decide +kernel
theorem dX10_valley_33 : decode cX10_valley 33 = .ok (.aload_n 0, 1) := by decide +kernel
theorem dX10_valley_34 : decode cX10_valley 34 = .ok (.getfield 27, 3) := by decide +kernel
theorem dX10_valley_37 : decode cX10_valley 37 = .ok (.iconst 0, 1) := by decide +kernel
theorem dX10_valley_38 : decode cX10_valley 38 = .ok (.putfield 72, 3) := by decide +kernel
theorem dX10_valley_41 : decode cX10_valley 41 = .ok (.iconst 1, 1) := by decide +kernel
theorem dX10_valley_42 : decode cX10_valley 42 = .ok (.ireturn, 1) := by decide +kernel
theorem dX10_person_0 : decode cX10_person 0 = .ok (.iload_n 1, 1) := by decide +kernel
theorem dX10_person_1 : decode cX10_person 1 = .ok (.iconst 1, 1) := by decide +kernel
theorem dX10_person_2 : decode cX10_person 2 = .ok (.invokestatic 79, 3) := by decide +kernel
theorem dX10_person_5 : decode cX10_person 5 = .ok (.ifCond .eq 33, 3) := by decide +kernel
theorem dX10_person_8 : decode cX10_person 8 = .ok (.iload_n 2, 1) := by decide +kernel
theorem dX10_person_9 : decode cX10_person 9 = .ok (.bipush 9, 2) := by decide +kernel
theorem dX10_person_11 : decode cX10_person 11 = .ok (.invokestatic 79, 3) := by decide +kernel
theorem dX10_person_14 : decode cX10_person 14 = .ok (.ifCond .eq 24, 3) := by decide +kernel
theorem dX10_person_17 : decode cX10_person 17 = .ok (.iload_n 3, 1) := by decide +kernel
theorem dX10_person_18 : decode cX10_person 18 = .ok (.bipush 9, 2) := by decide +kernel
theorem dX10_person_20 : decode cX10_person 20 = .ok (.invokestatic 79, 3) := by decide +kernel
theorem dX10_person_23 : decode cX10_person 23 = .ok (.ifCond .eq 15, 3) := by decide +kernel
theorem dX10_person_26 : decode cX10_person 26 = .ok (.aload_n 0, 1) := by decide +kernel
theorem dX10_person_27 : decode cX10_person 27 = .ok (.getfield 14, 3) := by decide +kernel
theorem dX10_person_30 : decode cX10_person 30 = .ok (.iload 4, 2) := by decide +kernel
theorem dX10_person_32 : decode cX10_person 32 = .ok (.invokevirtual 83, 3) := by decide +kernel
theorem dX10_person_35 : decode cX10_person 35 = .ok (.ifCond .ne 5, 3) := by decide +kernel
theorem dX10_person_38 : decode cX10_person 38 = .ok (.iconst (-1), 1) := by decide +kernel
theorem dX10_person_39 : decode cX10_person 39 = .ok (.ireturn, 1) := by decide +kernel
theorem dX10_person_40 : decode cX10_person 40 = .ok (.aload_n 0, 1) := by decide +kernel
theorem dX10_person_41 : decode cX10_person 41 = .ok (.getfield 14, 3) := by decide +kernel
theorem dX10_person_44 : decode cX10_person 44 = .ok (.getfield 87, 3) := by decide +kernel
theorem dX10_person_47 : decode cX10_person 47 = .ok (.iload_n 1, 1) := by decide +kernel
theorem dX10_person_48 : decode cX10_person 48 = .ok (.iload_n 2, 1) := by decide +kernel
theorem dX10_person_49 : decode cX10_person 49 = .ok (.iload_n 3, 1) := by decide +kernel
theorem dX10_person_50 : decode cX10_person 50 = .ok (.iload 4, 2) := by decide +kernel
theorem dX10_person_52 : decode cX10_person 52 = .ok (.invokevirtual 91, 3) := by decide +kernel
theorem dX10_person_55 : decode cX10_person 55 = .ok (.istore 5, 2) := by decide +kernel
theorem dX10_person_57 : decode cX10_person 57 = .ok (.iload 5, 2) := by decide +kernel
theorem dX10_person_59 : decode cX10_person 59 = .ok (.iconst (-1), 1) := by decide +kernel
theorem dX10_person_60 : decode cX10_person 60 = .ok (.if_icmp .eq 11, 3) := by decide +kernel
theorem dX10_person_63 : decode cX10_person 63 = .ok (.aload_n 0, 1) := by decide +kernel
theorem dX10_person_64 : decode cX10_person 64 = .ok (.getfield 27, 3) := by decide +kernel
theorem dX10_person_67 : decode cX10_person 67 = .ok (.iconst 0, 1) := by decide +kernel
theorem dX10_person_68 : decode cX10_person 68 = .ok (.putfield 72, 3) := by decide +kernel
theorem dX10_person_71 : decode cX10_person 71 = .ok (.iload 5, 2) := by decide +kernel
