theorem dX0_init_0 : decode cX0_init 0 = .ok (.aload_n 0, 1) := by decide +kernel
theorem dX0_init_1 : decode cX0_init 1 = .ok (.invokespecial 3, 3) := by decide +kernel
theorem dX0_init_4 : decode cX0_init 4 = .ok (.aload_n 0, 1) := by decide +kernel
theorem dX0_init_5 : decode cX0_init 5 = .ok (.bipush 12, 2) := by decide +kernel
theorem dX0_init_7 : decode cX0_init 7 = .ok (.newarray .int, 2) := by decide +kernel
theorem dX0_init_9 : decode cX0_init 9 = .ok (.putfield 9, 3) := by decide +kernel
theorem dX0_init_12 : decode cX0_init 12 = .ok (.aload_n 0, 1) := by decide +kernel
theorem dX0_init_13 : decode cX0_init 13 = .ok (.bipush 12, 2) := by decide +kernel
theorem dX0_init_15 : decode cX0_init 15 = .ok (.newarray .int, 2) := by decide +kernel
theorem dX0_init_17 : decode cX0_init 17 = .ok (.putfield 15, 3) := by decide +kernel
theorem dX0_init_20 : decode cX0_init 20 = .ok (.aload_n 0, 1) := by decide +kernel
theorem dX0_init_21 : decode cX0_init 21 = .ok (.sipush 144, 3) := by decide +kernel
theorem dX0_init_24 : decode cX0_init 24 = .ok (.newarray .int, 2) := by decide +kernel
theorem dX0_init_26 : decode cX0_init 26 = .ok (.putfield 18, 3) := by decide +kernel
theorem dX0_init_29 : decode cX0_init 29 = .ok (.aload_n 0, 1) := by decide +kernel
theorem dX0_init_30 : decode cX0_init 30 = .ok (.bipush 12, 2) := by decide +kernel
theorem dX0_init_32 : decode cX0_init 32 = .ok (.newarray .int, 2) := by decide +kernel
theorem dX0_init_34 : decode cX0_init 34 = .ok (.putfield 21, 3) := by decide +kernel
theorem dX0_init_37 : decode cX0_init 37 = .ok (.aload_n 0, 1) := by decide +kernel
theorem dX0_init_38 : decode cX0_init 38 = .ok (.bipush 12, 2) := by decide +kernel
theorem dX0_init_40 : decode cX0_init 40 = .ok (.newarray .int, 2) := by decide +kernel
theorem dX0_init_42 : decode cX0_init 42 = .ok (.putfield 24, 3) := by decide +kernel
theorem dX0_init_45 : decode cX0_init 45 = .ok (.aload_n 0, 1) := by decide +kernel
theorem dX0_init_46 : decode cX0_init 46 = .ok (.sipush 4096, 3) := by decide +kernel
theorem dX0_init_49 : decode cX0_init 49 = .ok (.newarray .int, 2) := by decide +kernel
theorem dX0_init_51 : decode cX0_init 51 = .ok (.putfield 27, 3) := by decide +kernel
theorem dX0_init_54 : decode cX0_init 54 = .ok (.aload_n 0, 1) := by decide +kernel
theorem dX0_init_55 : decode cX0_init 55 = .ok (.bipush 14, 2) := by decide +kernel
theorem dX0_init_57 : decode cX0_init 57 = .ok (.newarray .int, 2) := by decide +kernel
theorem dX0_init_59 : decode cX0_init 59 = .ok (.putfield 30, 3) := by decide +kernel
theorem dX0_init_62 : decode cX0_init 62 = .ok (.aload_n 0, 1) := by decide +kernel
theorem dX0_init_63 : decode cX0_init 63 = .ok (.bipush 10, 2) := by decide +kernel
theorem dX0_init_65 : decode cX0_init 65 = .ok (.newarray .int, 2) := by decide +kernel
theorem dX0_init_67 : decode cX0_init 67 = .ok (.putfield 33, 3) := by decide +kernel
theorem dX0_init_70 : decode cX0_init 70 = .ok (.return_, 1) := by decide +kernel
theorem dX0_gather_0 : decode cX0_gather 0 = .ok (.aload_n 0, 1) := by decide +kernel
theorem dX0_gather_1 : decode cX0_gather 1 = .ok (.iconst 0, 1) := by decide +kernel
theorem dX0_gather_2 : decode cX0_gather 2 = .ok (.putfield 36, 3) := by decide +kernel
theorem dX0_gather_5 : decode cX0_gather 5 = .ok (.aload_n 0, 1) := by decide +kernel
theorem dX0_gather_6 : decode cX0_gather 6 = .ok (.iconst 0, 1) := by decide +kernel
theorem dX0_gather_7 : decode cX0_gather 7 = .ok (.putfield 40, 3) := by decide +kernel
theorem dX0_gather_10 : decode cX0_gather 10 = .ok (.iconst 0, 1) := by decide +kernel
theorem dX0_gather_11 : decode cX0_gather 11 = .ok (.istore_n 2, 1) := by decide +kernel
theorem dX0_gather_12 : decode cX0_gather 12 = .ok (.iload_n 2, 1) := by decide +kernel
theorem dX0_gather_13 : decode cX0_gather 13 = .ok (.aload_n 1, 1) := by decide +kernel
theorem dX0_gather_14 : decode cX0_gather 14 = .ok (.getfield 43, 3) := by decide +kernel
theorem dX0_gather_17 : decode cX0_gather 17 = .ok (.if_icmp .ge 86, 3) := by decide +kernel
theorem dX0_gather_20 : decode cX0_gather 20 = .ok (.aload_n 0, 1) := by decide +kernel
theorem dX0_gather_21 : decode cX0_gather 21 = .ok (.getfield 9, 3) := by decide +kernel
theorem dX0_gather_24 : decode cX0_gather 24 = .ok (.iload_n 2, 1) := by decide +kernel
theorem dX0_gather_25 : decode cX0_gather 25 = .ok (.iconst (-1), 1) := by decide +kernel
theorem dX0_gather_26 : decode cX0_gather 26 = .ok (.iastore, 1) := by decide +kernel
theorem dX0_gather_27 : decode cX0_gather 27 = .ok (.aload_n 0, 1) := by decide +kernel
theorem dX0_gather_28 : decode cX0_gather 28 = .ok (.getfield 15, 3) := by decide +kernel
theorem dX0_gather_31 : decode cX0_gather 31 = .ok (.iload_n 2, 1) := by decide +kernel
theorem dX0_gather_32 : decode cX0_gather 32 = .ok (.iconst 0, 1) := by decide +kernel
theorem dX0_gather_33 : decode cX0_gather 33 = .ok (.iastore, 1) := by decide +kernel
theorem dX0_gather_34 : decode cX0_gather 34 = .ok (.aload_n 1, 1) := by decide +kernel
theorem dX0_gather_35 : decode cX0_gather 35 = .ok (.iload_n 2, 1) := by decide +kernel
theorem dX0_gather_36 : decode cX0_gather 36 = .ok (.invokevirtual 48, 3) := by decide +kernel
theorem dX0_gather_39 : decode cX0_gather 39 = .ok (.ifCond .ne 6, 3) := by decide +kernel
theorem dX0_gather_42 : decode cX0_gather 42 = .ok (.goto 55, 3) := by decide +kernel
theorem dX0_gather_45 : decode cX0_gather 45 = .ok (.aload_n 1, 1) := by decide +kernel
theorem dX0_gather_46 : decode cX0_gather 46 = .ok (.getfield 52, 3) := by decide +kernel
theorem dX0_gather_49 : decode cX0_gather 49 = .ok (.iload_n 2, 1) := by decide +kernel
theorem dX0_gather_50 : decode cX0_gather 50 = .ok (.iaload, 1) := by decide +kernel
theorem dX0_gather_51 : decode cX0_gather 51 = .ok (.ifCond .ne 26, 3) := by decide +kernel
theorem dX0_gather_54 : decode cX0_gather 54 = .ok (.aload_n 0, 1) := by decide +kernel
theorem dX0_gather_55 : decode cX0_gather 55 = .ok (.getfield 21, 3) := by decide +kernel
theorem dX0_gather_58 : decode cX0_gather 58 = .ok (.aload_n 0, 1) := by decide +kernel
theorem dX0_gather_59 : decode cX0_gather 59 = .ok (.getfield 36, 3) := by decide +kernel
theorem dX0_gather_62 : decode cX0_gather 62 = .ok (.iload_n 2, 1) := by decide +kernel
theorem dX0_gather_63 : decode cX0_gather 63 = .ok (.iastore, 1) := by decide +kernel
theorem dX0_gather_64 : decode cX0_gather 64 = .ok (.aload_n 0, 1) := by decide +kernel
theorem dX0_gather_65 : decode cX0_gather 65 = .ok (.dup, 1) := by decide +kernel
theorem dX0_gather_66 : decode cX0_gather 66 = .ok (.getfield 36, 3) := by decide +kernel
theorem dX0_gather_69 : decode cX0_gather 69 = .ok (.iconst 1, 1) := by decide +kernel
theorem dX0_gather_70 : decode cX0_gather 70 = .ok (.iadd, 1) := by decide +kernel
theorem dX0_gather_71 : decode cX0_gather 71 = .ok (.putfield 36, 3) := by decide +kernel
theorem dX0_gather_74 : decode cX0_gather 74 = .ok (.goto 23, 3) := by decide +kernel
theorem dX0_gather_77 : decode cX0_gather 77 = .ok (.aload_n 0, 1) := by decide +kernel
theorem dX0_gather_78 : decode cX0_gather 78 = .ok (.getfield 24, 3) := by decide +kernel
theorem dX0_gather_81 : decode cX0_gather 81 = .ok (.aload_n 0, 1) := by decide +kernel
theorem dX0_gather_82 : decode cX0_gather 82 = .ok (.getfield 40, 3) := by decide +kernel
theorem dX0_gather_85 : decode cX0_gather 85 = .ok (.iload_n 2, 1) := by decide +kernel
theorem dX0_gather_86 : decode cX0_gather 86 = .ok (.iastore, 1) := by decide +kernel
theorem dX0_gather_87 : decode cX0_gather 87 = .ok (.aload_n 0, 1) := by decide +kernel
theorem dX0_gather_88 : decode cX0_gather 88 = .ok (.dup, 1) := by decide +kernel
theorem dX0_gather_89 : decode cX0_gather 89 = .ok (.getfield 40, 3) := by decide +kernel
theorem dX0_gather_92 : decode cX0_gather 92 = .ok (.iconst 1, 1) := by decide +kernel
theorem dX0_gather_93 : decode cX0_gather 93 = .ok (.iadd, 1) := by decide +kernel
theorem dX0_gather_94 : decode cX0_gather 94 = .ok (.putfield 40, 3) := by decide +kernel
theorem dX0_gather_97 : decode cX0_gather 97 = .ok (.iinc 2 1, 3) := by decide +kernel
theorem dX0_gather_100 : decode cX0_gather 100 = .ok (.goto (-88), 3) := by decide +kernel
theorem dX0_gather_103 : decode cX0_gather 103 = .ok (.return_, 1) := by decide +kernel
theorem dX0_settle_0 : decode cX0_settle 0 = .ok (.aload_n 0, 1) := by decide +kernel
theorem dX0_settle_1 : decode cX0_settle 1 = .ok (.aload_n 1, 1) := by decide +kernel
theorem dX0_settle_2 : decode cX0_settle 2 = .ok (.getfield 55, 3) := by decide +kernel
theorem dX0_settle_5 : decode cX0_settle 5 = .ok (.invokevirtual 61, 3) := by decide +kernel
theorem dX0_settle_8 : decode cX0_settle 8 = .ok (.iconst 0, 1) := by decide +kernel
theorem dX0_settle_9 : decode cX0_settle 9 = .ok (.istore_n 2, 1) := by decide +kernel
theorem dX0_settle_10 : decode cX0_settle 10 = .ok (.iload_n 2, 1) := by decide +kernel
theorem dX0_settle_11 : decode cX0_settle 11 = .ok (.aload_n 0, 1) := by decide +kernel
theorem dX0_settle_12 : decode cX0_settle 12 = .ok (.getfield 36, 3) := by decide +kernel
theorem dX0_settle_15 : decode cX0_settle 15 = .ok (.if_icmp .ge 99, 3) := by decide +kernel
theorem dX0_settle_18 : decode cX0_settle 18 = .ok (.iconst 0, 1) := by decide +kernel
theorem dX0_settle_19 : decode cX0_settle 19 = .ok (.istore_n 3, 1) := by decide +kernel
theorem dX0_settle_20 : decode cX0_settle 20 = .ok (.iload_n 3, 1) := by decide +kernel
theorem dX0_settle_21 : decode cX0_settle 21 = .ok (.aload_n 0, 1) := by decide +kernel
theorem dX0_settle_22 : decode cX0_settle 22 = .ok (.getfield 40, 3) := by decide +kernel
theorem dX0_settle_25 : decode cX0_settle 25 = .ok (.if_icmp .ge 83, 3) := by decide +kernel
theorem dX0_settle_28 : decode cX0_settle 28 = .ok (.aload_n 0, 1) := by decide +kernel
theorem dX0_settle_29 : decode cX0_settle 29 = .ok (.getfield 18, 3) := by decide +kernel
theorem dX0_settle_32 : decode cX0_settle 32 = .ok (.bipush 12, 2) := by decide +kernel
theorem dX0_settle_34 : decode cX0_settle 34 = .ok (.aload_n 0, 1) := by decide +kernel
theorem dX0_settle_35 : decode cX0_settle 35 = .ok (.getfield 21, 3) := by decide +kernel
theorem dX0_settle_38 : decode cX0_settle 38 = .ok (.iload_n 2, 1) := by decide +kernel
theorem dX0_settle_39 : decode cX0_settle 39 = .ok (.iaload, 1) := by decide +kernel
theorem dX0_settle_40 : decode cX0_settle 40 = .ok (.imul, 1) := by decide +kernel
theorem dX0_settle_41 : decode cX0_settle 41 = .ok (.aload_n 0, 1) := by decide +kernel
theorem dX0_settle_42 : decode cX0_settle 42 = .ok (.getfield 24, 3) := by decide +kernel
theorem dX0_settle_45 : decode cX0_settle 45 = .ok (.iload_n 3, 1) := by decide +kernel
theorem dX0_settle_46 : decode cX0_settle 46 = .ok (.iaload, 1) := by decide +kernel
theorem dX0_settle_47 : decode cX0_settle 47 = .ok (.iadd, 1) := by decide +kernel
theorem dX0_settle_48 : decode cX0_settle 48 = .ok (.aload_n 1, 1) := by decide +kernel
theorem dX0_settle_49 : decode cX0_settle 49 = .ok (.aload_n 0, 1) := by decide +kernel
theorem dX0_settle_50 : decode cX0_settle 50 = .ok (.getfield 21, 3) := by decide +kernel
theorem dX0_settle_53 : decode cX0_settle 53 = .ok (.iload_n 2, 1) := by decide +kernel
theorem dX0_settle_54 : decode cX0_settle 54 = .ok (.iaload, 1) := by decide +kernel
theorem dX0_settle_55 : decode cX0_settle 55 = .ok (.aload_n 0, 1) := by decide +kernel
theorem dX0_settle_56 : decode cX0_settle 56 = .ok (.getfield 24, 3) := by decide +kernel
theorem dX0_settle_59 : decode cX0_settle 59 = .ok (.iload_n 3, 1) := by decide +kernel
theorem dX0_settle_60 : decode cX0_settle 60 = .ok (.iaload, 1) := by decide +kernel
theorem dX0_settle_61 : decode cX0_settle 61 = .ok (.invokevirtual 65, 3) := by decide +kernel
theorem dX0_settle_64 : decode cX0_settle 64 = .ok (.iastore, 1) := by decide +kernel
theorem dX0_settle_65 : decode cX0_settle 65 = .ok (.aload_n 0, 1) := by decide +kernel
theorem dX0_settle_66 : decode cX0_settle 66 = .ok (.getfield 18, 3) := by decide +kernel
theorem dX0_settle_69 : decode cX0_settle 69 = .ok (.bipush 12, 2) := by decide +kernel
theorem dX0_settle_71 : decode cX0_settle 71 = .ok (.aload_n 0, 1) := by decide +kernel
theorem dX0_settle_72 : decode cX0_settle 72 = .ok (.getfield 24, 3) := by decide +kernel
theorem dX0_settle_75 : decode cX0_settle 75 = .ok (.iload_n 3, 1) := by decide +kernel
theorem dX0_settle_76 : decode cX0_settle 76 = .ok (.iaload, 1) := by decide +kernel
theorem dX0_settle_77 : decode cX0_settle 77 = .ok (.imul, 1) := by decide +kernel
theorem dX0_settle_78 : decode cX0_settle 78 = .ok (.aload_n 0, 1) := by decide +kernel
theorem dX0_settle_79 : decode cX0_settle 79 = .ok (.getfield 21, 3) := by decide +kernel
theorem dX0_settle_82 : decode cX0_settle 82 = .ok (.iload_n 2, 1) := by decide +kernel
theorem dX0_settle_83 : decode cX0_settle 83 = .ok (.iaload, 1) := by decide +kernel
theorem dX0_settle_84 : decode cX0_settle 84 = .ok (.iadd, 1) := by decide +kernel
theorem dX0_settle_85 : decode cX0_settle 85 = .ok (.aload_n 1, 1) := by decide +kernel
theorem dX0_settle_86 : decode cX0_settle 86 = .ok (.aload_n 0, 1) := by decide +kernel
theorem dX0_settle_87 : decode cX0_settle 87 = .ok (.getfield 24, 3) := by decide +kernel
theorem dX0_settle_90 : decode cX0_settle 90 = .ok (.iload_n 3, 1) := by decide +kernel
theorem dX0_settle_91 : decode cX0_settle 91 = .ok (.iaload, 1) := by decide +kernel
theorem dX0_settle_92 : decode cX0_settle 92 = .ok (.aload_n 0, 1) := by decide +kernel
theorem dX0_settle_93 : decode cX0_settle 93 = .ok (.getfield 21, 3) := by decide +kernel
theorem dX0_settle_96 : decode cX0_settle 96 = .ok (.iload_n 2, 1) := by decide +kernel
theorem dX0_settle_97 : decode cX0_settle 97 = .ok (.iaload, 1) := by decide +kernel
theorem dX0_settle_98 : decode cX0_settle 98 = .ok (.invokevirtual 65, 3) := by decide +kernel
theorem dX0_settle_101 : decode cX0_settle 101 = .ok (.iastore, 1) := by decide +kernel
theorem dX0_settle_102 : decode cX0_settle 102 = .ok (.iinc 3 1, 3) := by decide +kernel
theorem dX0_settle_105 : decode cX0_settle 105 = .ok (.goto (-85), 3) := by decide +kernel
theorem dX0_settle_108 : decode cX0_settle 108 = .ok (.iinc 2 1, 3) := by decide +kernel
theorem dX0_settle_111 : decode cX0_settle 111 = .ok (.goto (-101), 3) := by decide +kernel
theorem dX0_settle_114 : decode cX0_settle 114 = .ok (.iconst 1, 1) := by decide +kernel
theorem dX0_settle_115 : decode cX0_settle 115 = .ok (.istore_n 2, 1) := by decide +kernel
theorem dX0_settle_116 : decode cX0_settle 116 = .ok (.iconst 0, 1) := by decide +kernel
theorem dX0_settle_117 : decode cX0_settle 117 = .ok (.istore_n 3, 1) := by decide +kernel
theorem dX0_settle_118 : decode cX0_settle 118 = .ok (.iload_n 3, 1) := by decide +kernel
theorem dX0_settle_119 : decode cX0_settle 119 = .ok (.sipush 144, 3) := by decide +kernel
theorem dX0_settle_122 : decode cX0_settle 122 = .ok (.if_icmp .gt 71, 3) := by decide +kernel
theorem dX0_settle_125 : decode cX0_settle 125 = .ok (.iload_n 2, 1) := by decide +kernel
theorem dX0_settle_126 : decode cX0_settle 126 = .ok (.ifCond .eq 67, 3) := by decide +kernel
theorem dX0_settle_129 : decode cX0_settle 129 = .ok (.iconst 0, 1) := by decide +kernel
theorem dX0_settle_130 : decode cX0_settle 130 = .ok (.istore_n 2, 1) := by decide +kernel
theorem dX0_settle_131 : decode cX0_settle 131 = .ok (.iconst 0, 1) := by decide +kernel
theorem dX0_settle_132 : decode cX0_settle 132 = .ok (.istore 4, 2) := by decide +kernel
theorem dX0_settle_134 : decode cX0_settle 134 = .ok (.iload 4, 2) := by decide +kernel
theorem dX0_settle_136 : decode cX0_settle 136 = .ok (.aload_n 0, 1) := by decide +kernel
theorem dX0_settle_137 : decode cX0_settle 137 = .ok (.getfield 36, 3) := by decide +kernel
theorem dX0_settle_140 : decode cX0_settle 140 = .ok (.if_icmp .ge 47, 3) := by decide +kernel
theorem dX0_settle_143 : decode cX0_settle 143 = .ok (.iload_n 2, 1) := by decide +kernel
theorem dX0_settle_144 : decode cX0_settle 144 = .ok (.aload_n 0, 1) := by decide +kernel
theorem dX0_settle_145 : decode cX0_settle 145 = .ok (.getfield 9, 3) := by decide +kernel
theorem dX0_settle_148 : decode cX0_settle 148 = .ok (.aload_n 0, 1) := by decide +kernel
theorem dX0_settle_149 : decode cX0_settle 149 = .ok (.getfield 21, 3) := by decide +kernel
theorem dX0_settle_152 : decode cX0_settle 152 = .ok (.iload 4, 2) := by decide +kernel
theorem dX0_settle_154 : decode cX0_settle 154 = .ok (.iaload, 1) := by decide +kernel
theorem dX0_settle_155 : decode cX0_settle 155 = .ok (.iaload, 1) := by decide +kernel
theorem dX0_settle_156 : decode cX0_settle 156 = .ok (.iconst (-1), 1) := by decide +kernel
theorem dX0_settle_157 : decode cX0_settle 157 = .ok (.if_icmp .ne 21, 3) := by decide +kernel
theorem dX0_settle_160 : decode cX0_settle 160 = .ok (.aload_n 0, 1) := by decide +kernel
theorem dX0_settle_161 : decode cX0_settle 161 = .ok (.aload_n 0, 1) := by decide +kernel
theorem dX0_settle_162 : decode cX0_settle 162 = .ok (.getfield 21, 3) := by decide +kernel
theorem dX0_settle_165 : decode cX0_settle 165 = .ok (.iload 4, 2) := by decide +kernel
theorem dX0_settle_167 : decode cX0_settle 167 = .ok (.iaload, 1) := by decide +kernel
theorem dX0_settle_168 : decode cX0_settle 168 = .ok (.invokevirtual 69, 3) := by decide +kernel
theorem dX0_settle_171 : decode cX0_settle 171 = .ok (.ifCond .eq 7, 3) := by decide +kernel
theorem dX0_settle_174 : decode cX0_settle 174 = .ok (.iconst 1, 1) := by decide +kernel
theorem dX0_settle_175 : decode cX0_settle 175 = .ok (.goto 4, 3) := by decide +kernel
theorem dX0_settle_178 : decode cX0_settle 178 = .ok (.iconst 0, 1) := by decide +kernel
theorem dX0_settle_179 : decode cX0_settle 179 = .ok (.ior, 1) := by decide +kernel
theorem dX0_settle_180 : decode cX0_settle 180 = .ok (.istore_n 2, 1) := by decide +kernel
theorem dX0_settle_181 : decode cX0_settle 181 = .ok (.iinc 4 1, 3) := by decide +kernel
theorem dX0_settle_184 : decode cX0_settle 184 = .ok (.goto (-50), 3) := by decide +kernel
theorem dX0_settle_187 : decode cX0_settle 187 = .ok (.iinc 3 1, 3) := by decide +kernel
theorem dX0_settle_190 : decode cX0_settle 190 = .ok (.goto (-72), 3) := by decide +kernel
theorem dX0_settle_193 : decode cX0_settle 193 = .ok (.return_, 1) := by decide +kernel
theorem dX0_asksNext_0 : decode cX0_asksNext 0 = .ok (.iconst (-1), 1) := by decide +kernel
theorem dX0_asksNext_1 : decode cX0_asksNext 1 = .ok (.istore_n 2, 1) := by decide +kernel
theorem dX0_asksNext_2 : decode cX0_asksNext 2 = .ok (.iconst 0, 1) := by decide +kernel
theorem dX0_asksNext_3 : decode cX0_asksNext 3 = .ok (.istore_n 3, 1) := by decide +kernel
theorem dX0_asksNext_4 : decode cX0_asksNext 4 = .ok (.iconst 0, 1) := by decide +kernel
theorem dX0_asksNext_5 : decode cX0_asksNext 5 = .ok (.istore 4, 2) := by decide +kernel
theorem dX0_asksNext_7 : decode cX0_asksNext 7 = .ok (.iload 4, 2) := by decide +kernel
theorem dX0_asksNext_9 : decode cX0_asksNext 9 = .ok (.aload_n 0, 1) := by decide +kernel
theorem dX0_asksNext_10 : decode cX0_asksNext 10 = .ok (.getfield 40, 3) := by decide +kernel
theorem dX0_asksNext_13 : decode cX0_asksNext 13 = .ok (.if_icmp .ge 64, 3) := by decide +kernel
theorem dX0_asksNext_16 : decode cX0_asksNext 16 = .ok (.aload_n 0, 1) := by decide +kernel
theorem dX0_asksNext_17 : decode cX0_asksNext 17 = .ok (.getfield 18, 3) := by decide +kernel
theorem dX0_asksNext_20 : decode cX0_asksNext 20 = .ok (.bipush 12, 2) := by decide +kernel
theorem dX0_asksNext_22 : decode cX0_asksNext 22 = .ok (.iload_n 1, 1) := by decide +kernel
theorem dX0_asksNext_23 : decode cX0_asksNext 23 = .ok (.imul, 1) := by decide +kernel
theorem dX0_asksNext_24 : decode cX0_asksNext 24 = .ok (.aload_n 0, 1) := by decide +kernel
theorem dX0_asksNext_25 : decode cX0_asksNext 25 = .ok (.getfield 24, 3) := by decide +kernel
theorem dX0_asksNext_28 : decode cX0_asksNext 28 = .ok (.iload 4, 2) := by decide +kernel
theorem dX0_asksNext_30 : decode cX0_asksNext 30 = .ok (.iaload, 1) := by decide +kernel
theorem dX0_asksNext_31 : decode cX0_asksNext 31 = .ok (.iadd, 1) := by decide +kernel
theorem dX0_asksNext_32 : decode cX0_asksNext 32 = .ok (.iaload, 1) := by decide +kernel
theorem dX0_asksNext_33 : decode cX0_asksNext 33 = .ok (.istore 5, 2) := by decide +kernel
theorem dX0_asksNext_35 : decode cX0_asksNext 35 = .ok (.aload_n 0, 1) := by decide +kernel
theorem dX0_asksNext_36 : decode cX0_asksNext 36 = .ok (.getfield 15, 3) := by decide +kernel
theorem dX0_asksNext_39 : decode cX0_asksNext 39 = .ok (.iload_n 1, 1) := by decide +kernel
theorem dX0_asksNext_40 : decode cX0_asksNext 40 = .ok (.iaload, 1) := by decide +kernel
theorem dX0_asksNext_41 : decode cX0_asksNext 41 = .ok (.aload_n 0, 1) := by decide +kernel
theorem dX0_asksNext_42 : decode cX0_asksNext 42 = .ok (.getfield 24, 3) := by decide +kernel
theorem dX0_asksNext_45 : decode cX0_asksNext 45 = .ok (.iload 4, 2) := by decide +kernel
theorem dX0_asksNext_47 : decode cX0_asksNext 47 = .ok (.iaload, 1) := by decide +kernel
theorem dX0_asksNext_48 : decode cX0_asksNext 48 = .ok (.ishr, 1) := by decide +kernel
theorem dX0_asksNext_49 : decode cX0_asksNext 49 = .ok (.iconst 1, 1) := by decide +kernel
theorem dX0_asksNext_50 : decode cX0_asksNext 50 = .ok (.iand, 1) := by decide +kernel
theorem dX0_asksNext_51 : decode cX0_asksNext 51 = .ok (.ifCond .ne 20, 3) := by decide +kernel
theorem dX0_asksNext_54 : decode cX0_asksNext 54 = .ok (.iload 5, 2) := by decide +kernel
theorem dX0_asksNext_56 : decode cX0_asksNext 56 = .ok (.iload_n 3, 1) := by decide +kernel
theorem dX0_asksNext_57 : decode cX0_asksNext 57 = .ok (.if_icmp .le 14, 3) := by decide +kernel
theorem dX0_asksNext_60 : decode cX0_asksNext 60 = .ok (.aload_n 0, 1) := by decide +kernel
theorem dX0_asksNext_61 : decode cX0_asksNext 61 = .ok (.getfield 24, 3) := by decide +kernel
theorem dX0_asksNext_64 : decode cX0_asksNext 64 = .ok (.iload 4, 2) := by decide +kernel
theorem dX0_asksNext_66 : decode cX0_asksNext 66 = .ok (.iaload, 1) := by decide +kernel
theorem dX0_asksNext_67 : decode cX0_asksNext 67 = .ok (.istore_n 2, 1) := by decide +kernel
theorem dX0_asksNext_68 : decode cX0_asksNext 68 = .ok (.iload 5, 2) := by decide +kernel
theorem dX0_asksNext_70 : decode cX0_asksNext 70 = .ok (.istore_n 3, 1) := by decide +kernel
theorem dX0_asksNext_71 : decode cX0_asksNext 71 = .ok (.iinc 4 1, 3) := by decide +kernel
theorem dX0_asksNext_74 : decode cX0_asksNext 74 = .ok (.goto (-67), 3) := by decide +kernel
theorem dX0_asksNext_77 : decode cX0_asksNext 77 = .ok (.iload_n 2, 1) := by decide +kernel
theorem dX0_asksNext_78 : decode cX0_asksNext 78 = .ok (.iconst (-1), 1) := by decide +kernel
theorem dX0_asksNext_79 : decode cX0_asksNext 79 = .ok (.if_icmp .ne 5, 3) := by decide +kernel
theorem dX0_asksNext_82 : decode cX0_asksNext 82 = .ok (.iconst 0, 1) := by decide +kernel
theorem dX0_asksNext_83 : decode cX0_asksNext 83 = .ok (.ireturn, 1) := by decide +kernel
theorem dX0_asksNext_84 : decode cX0_asksNext 84 = .ok (.aload_n 0, 1) := by decide +kernel
theorem dX0_asksNext_85 : decode cX0_asksNext 85 = .ok (.getfield 15, 3) := by decide +kernel
theorem dX0_asksNext_88 : decode cX0_asksNext 88 = .ok (.iload_n 1, 1) := by decide +kernel
theorem dX0_asksNext_89 : decode cX0_asksNext 89 = .ok (.dup2, 1) := by decide +kernel
theorem dX0_asksNext_90 : decode cX0_asksNext 90 = .ok (.iaload, 1) := by decide +kernel
theorem dX0_asksNext_91 : decode cX0_asksNext 91 = .ok (.iconst 1, 1) := by decide +kernel
theorem dX0_asksNext_92 : decode cX0_asksNext 92 = .ok (.iload_n 2, 1) := by decide +kernel
theorem dX0_asksNext_93 : decode cX0_asksNext 93 = .ok (.ishl, 1) := by decide +kernel
theorem dX0_asksNext_94 : decode cX0_asksNext 94 = .ok (.ior, 1) := by decide +kernel
theorem dX0_asksNext_95 : decode cX0_asksNext 95 = .ok (.iastore, 1) := by decide +kernel
theorem dX0_asksNext_96 : decode cX0_asksNext 96 = .ok (.aload_n 0, 1) := by decide +kernel
theorem dX0_asksNext_97 : decode cX0_asksNext 97 = .ok (.getfield 18, 3) := by decide +kernel
theorem dX0_asksNext_100 : decode cX0_asksNext 100 = .ok (.bipush 12, 2) := by decide +kernel
theorem dX0_asksNext_102 : decode cX0_asksNext 102 = .ok (.iload_n 2, 1) := by decide +kernel
theorem dX0_asksNext_103 : decode cX0_asksNext 103 = .ok (.imul, 1) := by decide +kernel
theorem dX0_asksNext_104 : decode cX0_asksNext 104 = .ok (.iload_n 1, 1) := by decide +kernel
theorem dX0_asksNext_105 : decode cX0_asksNext 105 = .ok (.iadd, 1) := by decide +kernel
theorem dX0_asksNext_106 : decode cX0_asksNext 106 = .ok (.iaload, 1) := by decide +kernel
theorem dX0_asksNext_107 : decode cX0_asksNext 107 = .ok (.istore 4, 2) := by decide +kernel
theorem dX0_asksNext_109 : decode cX0_asksNext 109 = .ok (.aload_n 0, 1) := by decide +kernel
theorem dX0_asksNext_110 : decode cX0_asksNext 110 = .ok (.getfield 9, 3) := by decide +kernel
theorem dX0_asksNext_113 : decode cX0_asksNext 113 = .ok (.iload_n 2, 1) := by decide +kernel
theorem dX0_asksNext_114 : decode cX0_asksNext 114 = .ok (.iaload, 1) := by decide +kernel
theorem dX0_asksNext_115 : decode cX0_asksNext 115 = .ok (.istore 5, 2) := by decide +kernel
theorem dX0_asksNext_117 : decode cX0_asksNext 117 = .ok (.iload 5, 2) := by decide +kernel
theorem dX0_asksNext_119 : decode cX0_asksNext 119 = .ok (.iconst (-1), 1) := by decide +kernel
theorem dX0_asksNext_120 : decode cX0_asksNext 120 = .ok (.if_icmp .ne 7, 3) := by decide +kernel
theorem dX0_asksNext_123 : decode cX0_asksNext 123 = .ok (.iconst 0, 1) := by decide +kernel
theorem dX0_asksNext_124 : decode cX0_asksNext 124 = .ok (.goto 15, 3) := by decide +kernel
theorem dX0_asksNext_127 : decode cX0_asksNext 127 = .ok (.aload_n 0, 1) := by decide +kernel
theorem dX0_asksNext_128 : decode cX0_asksNext 128 = .ok (.getfield 18, 3) := by decide +kernel
theorem dX0_asksNext_131 : decode cX0_asksNext 131 = .ok (.bipush 12, 2) := by decide +kernel
theorem dX0_asksNext_133 : decode cX0_asksNext 133 = .ok (.iload_n 2, 1) := by decide +kernel
theorem dX0_asksNext_134 : decode cX0_asksNext 134 = .ok (.imul, 1) := by decide +kernel
theorem dX0_asksNext_135 : decode cX0_asksNext 135 = .ok (.iload 5, 2) := by decide +kernel
theorem dX0_asksNext_137 : decode cX0_asksNext 137 = .ok (.iadd, 1) := by decide +kernel
theorem dX0_asksNext_138 : decode cX0_asksNext 138 = .ok (.iaload, 1) := by decide +kernel
theorem dX0_asksNext_139 : decode cX0_asksNext 139 = .ok (.istore 6, 2) := by decide +kernel
theorem dX0_asksNext_141 : decode cX0_asksNext 141 = .ok (.iload 4, 2) := by decide +kernel
theorem dX0_asksNext_143 : decode cX0_asksNext 143 = .ok (.iload 6, 2) := by decide +kernel
theorem dX0_asksNext_145 : decode cX0_asksNext 145 = .ok (.if_icmp .gt 16, 3) := by decide +kernel
theorem dX0_asksNext_148 : decode cX0_asksNext 148 = .ok (.iload 4, 2) := by decide +kernel
theorem dX0_asksNext_150 : decode cX0_asksNext 150 = .ok (.iload 6, 2) := by decide +kernel
theorem dX0_asksNext_152 : decode cX0_asksNext 152 = .ok (.if_icmp .ne 37, 3) := by decide +kernel
theorem dX0_asksNext_155 : decode cX0_asksNext 155 = .ok (.iload_n 1, 1) := by decide +kernel
theorem dX0_asksNext_156 : decode cX0_asksNext 156 = .ok (.iload 5, 2) := by decide +kernel
theorem dX0_asksNext_158 : decode cX0_asksNext 158 = .ok (.if_icmp .ge 31, 3) := by decide +kernel
theorem dX0_asksNext_161 : decode cX0_asksNext 161 = .ok (.iload 5, 2) := by decide +kernel
theorem dX0_asksNext_163 : decode cX0_asksNext 163 = .ok (.iconst (-1), 1) := by decide +kernel
theorem dX0_asksNext_164 : decode cX0_asksNext 164 = .ok (.if_icmp .eq 11, 3) := by decide +kernel
theorem dX0_asksNext_167 : decode cX0_asksNext 167 = .ok (.aload_n 0, 1) := by decide +kernel
theorem dX0_asksNext_168 : decode cX0_asksNext 168 = .ok (.getfield 9, 3) := by decide +kernel
theorem dX0_asksNext_171 : decode cX0_asksNext 171 = .ok (.iload 5, 2) := by decide +kernel
theorem dX0_asksNext_173 : decode cX0_asksNext 173 = .ok (.iconst (-1), 1) := by decide +kernel
theorem dX0_asksNext_174 : decode cX0_asksNext 174 = .ok (.iastore, 1) := by decide +kernel
theorem dX0_asksNext_175 : decode cX0_asksNext 175 = .ok (.aload_n 0, 1) := by decide +kernel
theorem dX0_asksNext_176 : decode cX0_asksNext 176 = .ok (.getfield 9, 3) := by decide +kernel
theorem dX0_asksNext_179 : decode cX0_asksNext 179 = .ok (.iload_n 2, 1) := by decide +kernel
theorem dX0_asksNext_180 : decode cX0_asksNext 180 = .ok (.iload_n 1, 1) := by decide +kernel
theorem dX0_asksNext_181 : decode cX0_asksNext 181 = .ok (.iastore, 1) := by decide +kernel
theorem dX0_asksNext_182 : decode cX0_asksNext 182 = .ok (.aload_n 0, 1) := by decide +kernel
theorem dX0_asksNext_183 : decode cX0_asksNext 183 = .ok (.getfield 9, 3) := by decide +kernel
theorem dX0_asksNext_186 : decode cX0_asksNext 186 = .ok (.iload_n 1, 1) := by decide +kernel
theorem dX0_asksNext_187 : decode cX0_asksNext 187 = .ok (.iload_n 2, 1) := by decide +kernel
theorem dX0_asksNext_188 : decode cX0_asksNext 188 = .ok (.iastore, 1) := by decide +kernel
theorem dX0_asksNext_189 : decode cX0_asksNext 189 = .ok (.iconst 1, 1) := by decide +kernel
theorem dX0_asksNext_190 : decode cX0_asksNext 190 = .ok (.ireturn, 1) := by decide +kernel
theorem dX0_pair_0 : decode cX0_pair 0 = .ok (.aload_n 0, 1) := by decide +kernel
theorem dX0_pair_1 : decode cX0_pair 1 = .ok (.aload_n 1, 1) := by decide +kernel
theorem dX0_pair_2 : decode cX0_pair 2 = .ok (.getfield 55, 3) := by decide +kernel
theorem dX0_pair_5 : decode cX0_pair 5 = .ok (.invokevirtual 61, 3) := by decide +kernel
theorem dX0_pair_8 : decode cX0_pair 8 = .ok (.iconst 0, 1) := by decide +kernel
theorem dX0_pair_9 : decode cX0_pair 9 = .ok (.istore_n 2, 1) := by decide +kernel
theorem dX0_pair_10 : decode cX0_pair 10 = .ok (.iload_n 2, 1) := by decide +kernel
theorem dX0_pair_11 : decode cX0_pair 11 = .ok (.aload_n 0, 1) := by decide +kernel
theorem dX0_pair_12 : decode cX0_pair 12 = .ok (.getfield 36, 3) := by decide +kernel
theorem dX0_pair_15 : decode cX0_pair 15 = .ok (.if_icmp .ge 62, 3) := by decide +kernel
theorem dX0_pair_18 : decode cX0_pair 18 = .ok (.iconst 0, 1) := by decide +kernel
theorem dX0_pair_19 : decode cX0_pair 19 = .ok (.istore_n 3, 1) := by decide +kernel
theorem dX0_pair_20 : decode cX0_pair 20 = .ok (.iload_n 3, 1) := by decide +kernel
theorem dX0_pair_21 : decode cX0_pair 21 = .ok (.aload_n 0, 1) := by decide +kernel
theorem dX0_pair_22 : decode cX0_pair 22 = .ok (.getfield 40, 3) := by decide +kernel
theorem dX0_pair_25 : decode cX0_pair 25 = .ok (.if_icmp .ge 46, 3) := by decide +kernel
theorem dX0_pair_28 : decode cX0_pair 28 = .ok (.aload_n 0, 1) := by decide +kernel
theorem dX0_pair_29 : decode cX0_pair 29 = .ok (.getfield 18, 3) := by decide +kernel
theorem dX0_pair_32 : decode cX0_pair 32 = .ok (.bipush 12, 2) := by decide +kernel
theorem dX0_pair_34 : decode cX0_pair 34 = .ok (.aload_n 0, 1) := by decide +kernel
theorem dX0_pair_35 : decode cX0_pair 35 = .ok (.getfield 21, 3) := by decide +kernel
theorem dX0_pair_38 : decode cX0_pair 38 = .ok (.iload_n 2, 1) := by decide +kernel
theorem dX0_pair_39 : decode cX0_pair 39 = .ok (.iaload, 1) := by decide +kernel
theorem dX0_pair_40 : decode cX0_pair 40 = .ok (.imul, 1) := by decide +kernel
theorem dX0_pair_41 : decode cX0_pair 41 = .ok (.aload_n 0, 1) := by decide +kernel
theorem dX0_pair_42 : decode cX0_pair 42 = .ok (.getfield 24, 3) := by decide +kernel
theorem dX0_pair_45 : decode cX0_pair 45 = .ok (.iload_n 3, 1) := by decide +kernel
theorem dX0_pair_46 : decode cX0_pair 46 = .ok (.iaload, 1) := by decide +kernel
theorem dX0_pair_47 : decode cX0_pair 47 = .ok (.iadd, 1) := by decide +kernel
theorem dX0_pair_48 : decode cX0_pair 48 = .ok (.aload_n 1, 1) := by decide +kernel
theorem dX0_pair_49 : decode cX0_pair 49 = .ok (.aload_n 0, 1) := by decide +kernel
theorem dX0_pair_50 : decode cX0_pair 50 = .ok (.getfield 21, 3) := by decide +kernel
theorem dX0_pair_53 : decode cX0_pair 53 = .ok (.iload_n 2, 1) := by decide +kernel
theorem dX0_pair_54 : decode cX0_pair 54 = .ok (.iaload, 1) := by decide +kernel
theorem dX0_pair_55 : decode cX0_pair 55 = .ok (.aload_n 0, 1) := by decide +kernel
theorem dX0_pair_56 : decode cX0_pair 56 = .ok (.getfield 24, 3) := by decide +kernel
theorem dX0_pair_59 : decode cX0_pair 59 = .ok (.iload_n 3, 1) := by decide +kernel
theorem dX0_pair_60 : decode cX0_pair 60 = .ok (.iaload, 1) := by decide +kernel
theorem dX0_pair_61 : decode cX0_pair 61 = .ok (.invokevirtual 72, 3) := by decide +kernel
theorem dX0_pair_64 : decode cX0_pair 64 = .ok (.iastore, 1) := by decide +kernel
theorem dX0_pair_65 : decode cX0_pair 65 = .ok (.iinc 3 1, 3) := by decide +kernel
theorem dX0_pair_68 : decode cX0_pair 68 = .ok (.goto (-48), 3) := by decide +kernel
theorem dX0_pair_71 : decode cX0_pair 71 = .ok (.iinc 2 1, 3) := by decide +kernel
theorem dX0_pair_74 : decode cX0_pair 74 = .ok (.goto (-64), 3) := by decide +kernel
theorem dX0_pair_77 : decode cX0_pair 77 = .ok (.iconst 1, 1) := by decide +kernel
theorem dX0_pair_78 : decode cX0_pair 78 = .ok (.aload_n 0, 1) := by decide +kernel
theorem dX0_pair_79 : decode cX0_pair 79 = .ok (.getfield 40, 3) := by decide +kernel
theorem dX0_pair_82 : decode cX0_pair 82 = .ok (.ishl, 1) := by decide +kernel
theorem dX0_pair_83 : decode cX0_pair 83 = .ok (.istore_n 2, 1) := by decide +kernel
theorem dX0_pair_84 : decode cX0_pair 84 = .ok (.iconst 0, 1) := by decide +kernel
theorem dX0_pair_85 : decode cX0_pair 85 = .ok (.istore_n 3, 1) := by decide +kernel
theorem dX0_pair_86 : decode cX0_pair 86 = .ok (.iload_n 3, 1) := by decide +kernel
theorem dX0_pair_87 : decode cX0_pair 87 = .ok (.iload_n 2, 1) := by decide +kernel
theorem dX0_pair_88 : decode cX0_pair 88 = .ok (.if_icmp .ge 26, 3) := by decide +kernel
theorem dX0_pair_91 : decode cX0_pair 91 = .ok (.aload_n 0, 1) := by decide +kernel
theorem dX0_pair_92 : decode cX0_pair 92 = .ok (.getfield 27, 3) := by decide +kernel
theorem dX0_pair_95 : decode cX0_pair 95 = .ok (.aload_n 0, 1) := by decide +kernel
theorem dX0_pair_96 : decode cX0_pair 96 = .ok (.getfield 36, 3) := by decide +kernel
theorem dX0_pair_99 : decode cX0_pair 99 = .ok (.aload_n 0, 1) := by decide +kernel
theorem dX0_pair_100 : decode cX0_pair 100 = .ok (.getfield 40, 3) := by decide +kernel
theorem dX0_pair_103 : decode cX0_pair 103 = .ok (.ishl, 1) := by decide +kernel
theorem dX0_pair_104 : decode cX0_pair 104 = .ok (.iload_n 3, 1) := by decide +kernel
theorem dX0_pair_105 : decode cX0_pair 105 = .ok (.ior, 1) := by decide +kernel
theorem dX0_pair_106 : decode cX0_pair 106 = .ok (.iconst 0, 1) := by decide +kernel
theorem dX0_pair_107 : decode cX0_pair 107 = .ok (.iastore, 1) := by decide +kernel
theorem dX0_pair_108 : decode cX0_pair 108 = .ok (.iinc 3 1, 3) := by decide +kernel
theorem dX0_pair_111 : decode cX0_pair 111 = .ok (.goto (-25), 3) := by decide +kernel
theorem dX0_pair_114 : decode cX0_pair 114 = .ok (.aload_n 0, 1) := by decide +kernel
theorem dX0_pair_115 : decode cX0_pair 115 = .ok (.getfield 36, 3) := by decide +kernel
theorem dX0_pair_118 : decode cX0_pair 118 = .ok (.iconst 1, 1) := by decide +kernel
theorem dX0_pair_119 : decode cX0_pair 119 = .ok (.isub, 1) := by decide +kernel
theorem dX0_pair_120 : decode cX0_pair 120 = .ok (.istore_n 3, 1) := by decide +kernel
theorem dX0_pair_121 : decode cX0_pair 121 = .ok (.iload_n 3, 1) := by decide +kernel
theorem dX0_pair_122 : decode cX0_pair 122 = .ok (.ifCond .lt 54, 3) := by decide +kernel
theorem dX0_pair_125 : decode cX0_pair 125 = .ok (.iconst 0, 1) := by decide +kernel
theorem dX0_pair_126 : decode cX0_pair 126 = .ok (.istore 4, 2) := by decide +kernel
theorem dX0_pair_128 : decode cX0_pair 128 = .ok (.iload 4, 2) := by decide +kernel
theorem dX0_pair_130 : decode cX0_pair 130 = .ok (.iload_n 2, 1) := by decide +kernel
theorem dX0_pair_131 : decode cX0_pair 131 = .ok (.if_icmp .ge 39, 3) := by decide +kernel
theorem dX0_pair_134 : decode cX0_pair 134 = .ok (.iload 4, 2) := by decide +kernel
theorem dX0_pair_136 : decode cX0_pair 136 = .ok (.invokestatic 75, 3) := by decide +kernel
theorem dX0_pair_139 : decode cX0_pair 139 = .ok (.iload_n 3, 1) := by decide +kernel
theorem dX0_pair_140 : decode cX0_pair 140 = .ok (.if_icmp .gt 24, 3) := by decide +kernel
theorem dX0_pair_143 : decode cX0_pair 143 = .ok (.aload_n 0, 1) := by decide +kernel
theorem dX0_pair_144 : decode cX0_pair 144 = .ok (.getfield 27, 3) := by decide +kernel
theorem dX0_pair_147 : decode cX0_pair 147 = .ok (.iload_n 3, 1) := by decide +kernel
theorem dX0_pair_148 : decode cX0_pair 148 = .ok (.aload_n 0, 1) := by decide +kernel
theorem dX0_pair_149 : decode cX0_pair 149 = .ok (.getfield 40, 3) := by decide +kernel
theorem dX0_pair_152 : decode cX0_pair 152 = .ok (.ishl, 1) := by decide +kernel
theorem dX0_pair_153 : decode cX0_pair 153 = .ok (.iload 4, 2) := by decide +kernel
theorem dX0_pair_155 : decode cX0_pair 155 = .ok (.ior, 1) := by decide +kernel
theorem dX0_pair_156 : decode cX0_pair 156 = .ok (.aload_n 0, 1) := by decide +kernel
theorem dX0_pair_157 : decode cX0_pair 157 = .ok (.iload_n 3, 1) := by decide +kernel
theorem dX0_pair_158 : decode cX0_pair 158 = .ok (.iload 4, 2) := by decide +kernel
theorem dX0_pair_160 : decode cX0_pair 160 = .ok (.invokevirtual 81, 3) := by decide +kernel
theorem dX0_pair_163 : decode cX0_pair 163 = .ok (.iastore, 1) := by decide +kernel
theorem dX0_pair_164 : decode cX0_pair 164 = .ok (.iinc 4 1, 3) := by decide +kernel
theorem dX0_pair_167 : decode cX0_pair 167 = .ok (.goto (-39), 3) := by decide +kernel
theorem dX0_pair_170 : decode cX0_pair 170 = .ok (.iinc 3 (-1), 3) := by decide +kernel
theorem dX0_pair_173 : decode cX0_pair 173 = .ok (.goto (-52), 3) := by decide +kernel
theorem dX0_pair_176 : decode cX0_pair 176 = .ok (.aload_n 0, 1) := by decide +kernel
theorem dX0_pair_177 : decode cX0_pair 177 = .ok (.invokevirtual 84, 3) := by decide +kernel
theorem dX0_pair_180 : decode cX0_pair 180 = .ok (.aload_n 0, 1) := by decide +kernel
theorem dX0_pair_181 : decode cX0_pair 181 = .ok (.getfield 27, 3) := by decide +kernel
theorem dX0_pair_184 : decode cX0_pair 184 = .ok (.iconst 0, 1) := by decide +kernel
theorem dX0_pair_185 : decode cX0_pair 185 = .ok (.iaload, 1) := by decide +kernel
theorem dX0_pair_186 : decode cX0_pair 186 = .ok (.ireturn, 1) := by decide +kernel
theorem dX0_greatestSum_0 : decode cX0_greatestSum 0 = .ok (.aload_n 0, 1) := by decide +kernel
theorem dX0_greatestSum_1 : decode cX0_greatestSum 1 = .ok (.getfield 27, 3) := by decide +kernel
theorem dX0_greatestSum_4 : decode cX0_greatestSum 4 = .ok (.iload_n 1, 1) := by decide +kernel
theorem dX0_greatestSum_5 : decode cX0_greatestSum 5 = .ok (.iconst 1, 1) := by decide +kernel
theorem dX0_greatestSum_6 : decode cX0_greatestSum 6 = .ok (.iadd, 1) := by decide +kernel
theorem dX0_greatestSum_7 : decode cX0_greatestSum 7 = .ok (.aload_n 0, 1) := by decide +kernel
theorem dX0_greatestSum_8 : decode cX0_greatestSum 8 = .ok (.getfield 40, 3) := by decide +kernel
theorem dX0_greatestSum_11 : decode cX0_greatestSum 11 = .ok (.ishl, 1) := by decide +kernel
theorem dX0_greatestSum_12 : decode cX0_greatestSum 12 = .ok (.iload_n 2, 1) := by decide +kernel
theorem dX0_greatestSum_13 : decode cX0_greatestSum 13 = .ok (.ior, 1) := by decide +kernel
theorem dX0_greatestSum_14 : decode cX0_greatestSum 14 = .ok (.iaload, 1) := by decide +kernel
theorem dX0_greatestSum_15 : decode cX0_greatestSum 15 = .ok (.istore_n 3, 1) := by decide +kernel
theorem dX0_greatestSum_16 : decode cX0_greatestSum 16 = .ok (.iconst 0, 1) := by decide +kernel
theorem dX0_greatestSum_17 : decode cX0_greatestSum 17 = .ok (.istore 4, 2) := by decide +kernel
theorem dX0_greatestSum_19 : decode cX0_greatestSum 19 = .ok (.iload 4, 2) := by decide +kernel
theorem dX0_greatestSum_21 : decode cX0_greatestSum 21 = .ok (.aload_n 0, 1) := by decide +kernel
theorem dX0_greatestSum_22 : decode cX0_greatestSum 22 = .ok (.getfield 40, 3) := by decide +kernel
theorem dX0_greatestSum_25 : decode cX0_greatestSum 25 = .ok (.if_icmp .ge 31, 3) := by decide +kernel
theorem dX0_greatestSum_28 : decode cX0_greatestSum 28 = .ok (.iload_n 2, 1) := by decide +kernel
theorem dX0_greatestSum_29 : decode cX0_greatestSum 29 = .ok (.iload 4, 2) := by decide +kernel
theorem dX0_greatestSum_31 : decode cX0_greatestSum 31 = .ok (.ishr, 1) := by decide +kernel
theorem dX0_greatestSum_32 : decode cX0_greatestSum 32 = .ok (.iconst 1, 1) := by decide +kernel
theorem dX0_greatestSum_33 : decode cX0_greatestSum 33 = .ok (.iand, 1) := by decide +kernel
theorem dX0_greatestSum_34 : decode cX0_greatestSum 34 = .ok (.ifCond .ne 16, 3) := by decide +kernel
theorem dX0_greatestSum_37 : decode cX0_greatestSum 37 = .ok (.iload_n 3, 1) := by decide +kernel
theorem dX0_greatestSum_38 : decode cX0_greatestSum 38 = .ok (.aload_n 0, 1) := by decide +kernel
theorem dX0_greatestSum_39 : decode cX0_greatestSum 39 = .ok (.iload_n 1, 1) := by decide +kernel
theorem dX0_greatestSum_40 : decode cX0_greatestSum 40 = .ok (.iload 4, 2) := by decide +kernel
theorem dX0_greatestSum_42 : decode cX0_greatestSum 42 = .ok (.iload_n 2, 1) := by decide +kernel
theorem dX0_greatestSum_43 : decode cX0_greatestSum 43 = .ok (.invokevirtual 87, 3) := by decide +kernel
theorem dX0_greatestSum_46 : decode cX0_greatestSum 46 = .ok (.invokestatic 91, 3) := by decide +kernel
theorem dX0_greatestSum_49 : decode cX0_greatestSum 49 = .ok (.istore_n 3, 1) := by decide +kernel
theorem dX0_greatestSum_50 : decode cX0_greatestSum 50 = .ok (.iinc 4 1, 3) := by decide +kernel
theorem dX0_greatestSum_53 : decode cX0_greatestSum 53 = .ok (.goto (-34), 3) := by decide +kernel
theorem dX0_greatestSum_56 : decode cX0_greatestSum 56 = .ok (.iload_n 3, 1) := by decide +kernel
theorem dX0_greatestSum_57 : decode cX0_greatestSum 57 = .ok (.ireturn, 1) := by decide +kernel
theorem dX0_sumWith_0 : decode cX0_sumWith 0 = .ok (.aload_n 0, 1) := by decide +kernel
theorem dX0_sumWith_1 : decode cX0_sumWith 1 = .ok (.getfield 18, 3) := by decide +kernel
theorem dX0_sumWith_4 : decode cX0_sumWith 4 = .ok (.bipush 12, 2) := by decide +kernel
theorem dX0_sumWith_6 : decode cX0_sumWith 6 = .ok (.aload_n 0, 1) := by decide +kernel
theorem dX0_sumWith_7 : decode cX0_sumWith 7 = .ok (.getfield 21, 3) := by decide +kernel
theorem dX0_sumWith_10 : decode cX0_sumWith 10 = .ok (.iload_n 1, 1) := by decide +kernel
theorem dX0_sumWith_11 : decode cX0_sumWith 11 = .ok (.iaload, 1) := by decide +kernel
theorem dX0_sumWith_12 : decode cX0_sumWith 12 = .ok (.imul, 1) := by decide +kernel
theorem dX0_sumWith_13 : decode cX0_sumWith 13 = .ok (.aload_n 0, 1) := by decide +kernel
theorem dX0_sumWith_14 : decode cX0_sumWith 14 = .ok (.getfield 24, 3) := by decide +kernel
theorem dX0_sumWith_17 : decode cX0_sumWith 17 = .ok (.iload_n 2, 1) := by decide +kernel
theorem dX0_sumWith_18 : decode cX0_sumWith 18 = .ok (.iaload, 1) := by decide +kernel
theorem dX0_sumWith_19 : decode cX0_sumWith 19 = .ok (.iadd, 1) := by decide +kernel
theorem dX0_sumWith_20 : decode cX0_sumWith 20 = .ok (.iaload, 1) := by decide +kernel
theorem dX0_sumWith_21 : decode cX0_sumWith 21 = .ok (.aload_n 0, 1) := by decide +kernel
theorem dX0_sumWith_22 : decode cX0_sumWith 22 = .ok (.getfield 27, 3) := by decide +kernel
theorem dX0_sumWith_25 : decode cX0_sumWith 25 = .ok (.iload_n 1, 1) := by decide +kernel
theorem dX0_sumWith_26 : decode cX0_sumWith 26 = .ok (.iconst 1, 1) := by decide +kernel
theorem dX0_sumWith_27 : decode cX0_sumWith 27 = .ok (.iadd, 1) := by decide +kernel
theorem dX0_sumWith_28 : decode cX0_sumWith 28 = .ok (.aload_n 0, 1) := by decide +kernel
theorem dX0_sumWith_29 : decode cX0_sumWith 29 = .ok (.getfield 40, 3) := by decide +kernel
theorem dX0_sumWith_32 : decode cX0_sumWith 32 = .ok (.ishl, 1) := by decide +kernel
theorem dX0_sumWith_33 : decode cX0_sumWith 33 = .ok (.iload_n 3, 1) := by decide +kernel
theorem dX0_sumWith_34 : decode cX0_sumWith 34 = .ok (.ior, 1) := by decide +kernel
theorem dX0_sumWith_35 : decode cX0_sumWith 35 = .ok (.iconst 1, 1) := by decide +kernel
theorem dX0_sumWith_36 : decode cX0_sumWith 36 = .ok (.iload_n 2, 1) := by decide +kernel
theorem dX0_sumWith_37 : decode cX0_sumWith 37 = .ok (.ishl, 1) := by decide +kernel
theorem dX0_sumWith_38 : decode cX0_sumWith 38 = .ok (.ior, 1) := by decide +kernel
theorem dX0_sumWith_39 : decode cX0_sumWith 39 = .ok (.iaload, 1) := by decide +kernel
theorem dX0_sumWith_40 : decode cX0_sumWith 40 = .ok (.iadd, 1) := by decide +kernel
theorem dX0_sumWith_41 : decode cX0_sumWith 41 = .ok (.ireturn, 1) := by decide +kernel
theorem dX0_takeFirstWay_0 : decode cX0_takeFirstWay 0 = .ok (.iconst 0, 1) := by decide +kernel
theorem dX0_takeFirstWay_1 : decode cX0_takeFirstWay 1 = .ok (.istore_n 1, 1) := by decide +kernel
theorem dX0_takeFirstWay_2 : decode cX0_takeFirstWay 2 = .ok (.iconst 0, 1) := by decide +kernel
theorem dX0_takeFirstWay_3 : decode cX0_takeFirstWay 3 = .ok (.istore_n 2, 1) := by decide +kernel
theorem dX0_takeFirstWay_4 : decode cX0_takeFirstWay 4 = .ok (.iload_n 2, 1) := by decide +kernel
theorem dX0_takeFirstWay_5 : decode cX0_takeFirstWay 5 = .ok (.aload_n 0, 1) := by decide +kernel
theorem dX0_takeFirstWay_6 : decode cX0_takeFirstWay 6 = .ok (.getfield 36, 3) := by decide +kernel
theorem dX0_takeFirstWay_9 : decode cX0_takeFirstWay 9 = .ok (.if_icmp .ge 108, 3) := by decide +kernel
theorem dX0_takeFirstWay_12 : decode cX0_takeFirstWay 12 = .ok (.aload_n 0, 1) := by decide +kernel
theorem dX0_takeFirstWay_13 : decode cX0_takeFirstWay 13 = .ok (.getfield 27, 3) := by decide +kernel
theorem dX0_takeFirstWay_16 : decode cX0_takeFirstWay 16 = .ok (.iload_n 2, 1) := by decide +kernel
theorem dX0_takeFirstWay_17 : decode cX0_takeFirstWay 17 = .ok (.aload_n 0, 1) := by decide +kernel
theorem dX0_takeFirstWay_18 : decode cX0_takeFirstWay 18 = .ok (.getfield 40, 3) := by decide +kernel
theorem dX0_takeFirstWay_21 : decode cX0_takeFirstWay 21 = .ok (.ishl, 1) := by decide +kernel
theorem dX0_takeFirstWay_22 : decode cX0_takeFirstWay 22 = .ok (.iload_n 1, 1) := by decide +kernel
theorem dX0_takeFirstWay_23 : decode cX0_takeFirstWay 23 = .ok (.ior, 1) := by decide +kernel
theorem dX0_takeFirstWay_24 : decode cX0_takeFirstWay 24 = .ok (.iaload, 1) := by decide +kernel
theorem dX0_takeFirstWay_25 : decode cX0_takeFirstWay 25 = .ok (.istore_n 3, 1) := by decide +kernel
theorem dX0_takeFirstWay_26 : decode cX0_takeFirstWay 26 = .ok (.iconst 0, 1) := by decide +kernel
theorem dX0_takeFirstWay_27 : decode cX0_takeFirstWay 27 = .ok (.istore 4, 2) := by decide +kernel
theorem dX0_takeFirstWay_29 : decode cX0_takeFirstWay 29 = .ok (.iload 4, 2) := by decide +kernel
theorem dX0_takeFirstWay_31 : decode cX0_takeFirstWay 31 = .ok (.aload_n 0, 1) := by decide +kernel
theorem dX0_takeFirstWay_32 : decode cX0_takeFirstWay 32 = .ok (.getfield 40, 3) := by decide +kernel
theorem dX0_takeFirstWay_35 : decode cX0_takeFirstWay 35 = .ok (.if_icmp .ge 76, 3) := by decide +kernel
theorem dX0_takeFirstWay_38 : decode cX0_takeFirstWay 38 = .ok (.iload_n 1, 1) := by decide +kernel
theorem dX0_takeFirstWay_39 : decode cX0_takeFirstWay 39 = .ok (.iload 4, 2) := by decide +kernel
theorem dX0_takeFirstWay_41 : decode cX0_takeFirstWay 41 = .ok (.ishr, 1) := by decide +kernel
theorem dX0_takeFirstWay_42 : decode cX0_takeFirstWay 42 = .ok (.iconst 1, 1) := by decide +kernel
theorem dX0_takeFirstWay_43 : decode cX0_takeFirstWay 43 = .ok (.iand, 1) := by decide +kernel
theorem dX0_takeFirstWay_44 : decode cX0_takeFirstWay 44 = .ok (.ifCond .ne 61, 3) := by decide +kernel
theorem dX0_takeFirstWay_47 : decode cX0_takeFirstWay 47 = .ok (.aload_n 0, 1) := by decide +kernel
theorem dX0_takeFirstWay_48 : decode cX0_takeFirstWay 48 = .ok (.iload_n 2, 1) := by decide +kernel
theorem dX0_takeFirstWay_49 : decode cX0_takeFirstWay 49 = .ok (.iload 4, 2) := by decide +kernel
theorem dX0_takeFirstWay_51 : decode cX0_takeFirstWay 51 = .ok (.iload_n 1, 1) := by decide +kernel
theorem dX0_takeFirstWay_52 : decode cX0_takeFirstWay 52 = .ok (.invokevirtual 87, 3) := by decide +kernel
theorem dX0_takeFirstWay_55 : decode cX0_takeFirstWay 55 = .ok (.iload_n 3, 1) := by decide +kernel
theorem dX0_takeFirstWay_56 : decode cX0_takeFirstWay 56 = .ok (.if_icmp .ne 49, 3) := by decide +kernel
theorem dX0_takeFirstWay_59 : decode cX0_takeFirstWay 59 = .ok (.aload_n 0, 1) := by decide +kernel
theorem dX0_takeFirstWay_60 : decode cX0_takeFirstWay 60 = .ok (.getfield 9, 3) := by decide +kernel
theorem dX0_takeFirstWay_63 : decode cX0_takeFirstWay 63 = .ok (.aload_n 0, 1) := by decide +kernel
theorem dX0_takeFirstWay_64 : decode cX0_takeFirstWay 64 = .ok (.getfield 21, 3) := by decide +kernel
theorem dX0_takeFirstWay_67 : decode cX0_takeFirstWay 67 = .ok (.iload_n 2, 1) := by decide +kernel
theorem dX0_takeFirstWay_68 : decode cX0_takeFirstWay 68 = .ok (.iaload, 1) := by decide +kernel
theorem dX0_takeFirstWay_69 : decode cX0_takeFirstWay 69 = .ok (.aload_n 0, 1) := by decide +kernel
theorem dX0_takeFirstWay_70 : decode cX0_takeFirstWay 70 = .ok (.getfield 24, 3) := by decide +kernel
theorem dX0_takeFirstWay_73 : decode cX0_takeFirstWay 73 = .ok (.iload 4, 2) := by decide +kernel
theorem dX0_takeFirstWay_75 : decode cX0_takeFirstWay 75 = .ok (.iaload, 1) := by decide +kernel
theorem dX0_takeFirstWay_76 : decode cX0_takeFirstWay 76 = .ok (.iastore, 1) := by decide +kernel
theorem dX0_takeFirstWay_77 : decode cX0_takeFirstWay 77 = .ok (.aload_n 0, 1) := by decide +kernel
theorem dX0_takeFirstWay_78 : decode cX0_takeFirstWay 78 = .ok (.getfield 9, 3) := by decide +kernel
theorem dX0_takeFirstWay_81 : decode cX0_takeFirstWay 81 = .ok (.aload_n 0, 1) := by decide +kernel
theorem dX0_takeFirstWay_82 : decode cX0_takeFirstWay 82 = .ok (.getfield 24, 3) := by decide +kernel
theorem dX0_takeFirstWay_85 : decode cX0_takeFirstWay 85 = .ok (.iload 4, 2) := by decide +kernel
theorem dX0_takeFirstWay_87 : decode cX0_takeFirstWay 87 = .ok (.iaload, 1) := by decide +kernel
theorem dX0_takeFirstWay_88 : decode cX0_takeFirstWay 88 = .ok (.aload_n 0, 1) := by decide +kernel
theorem dX0_takeFirstWay_89 : decode cX0_takeFirstWay 89 = .ok (.getfield 21, 3) := by decide +kernel
theorem dX0_takeFirstWay_92 : decode cX0_takeFirstWay 92 = .ok (.iload_n 2, 1) := by decide +kernel
theorem dX0_takeFirstWay_93 : decode cX0_takeFirstWay 93 = .ok (.iaload, 1) := by decide +kernel
theorem dX0_takeFirstWay_94 : decode cX0_takeFirstWay 94 = .ok (.iastore, 1) := by decide +kernel
theorem dX0_takeFirstWay_95 : decode cX0_takeFirstWay 95 = .ok (.iload_n 1, 1) := by decide +kernel
theorem dX0_takeFirstWay_96 : decode cX0_takeFirstWay 96 = .ok (.iconst 1, 1) := by decide +kernel
theorem dX0_takeFirstWay_97 : decode cX0_takeFirstWay 97 = .ok (.iload 4, 2) := by decide +kernel
theorem dX0_takeFirstWay_99 : decode cX0_takeFirstWay 99 = .ok (.ishl, 1) := by decide +kernel
theorem dX0_takeFirstWay_100 : decode cX0_takeFirstWay 100 = .ok (.ior, 1) := by decide +kernel
theorem dX0_takeFirstWay_101 : decode cX0_takeFirstWay 101 = .ok (.istore_n 1, 1) := by decide +kernel
theorem dX0_takeFirstWay_102 : decode cX0_takeFirstWay 102 = .ok (.goto 9, 3) := by decide +kernel
theorem dX0_takeFirstWay_105 : decode cX0_takeFirstWay 105 = .ok (.iinc 4 1, 3) := by decide +kernel
theorem dX0_takeFirstWay_108 : decode cX0_takeFirstWay 108 = .ok (.goto (-79), 3) := by decide +kernel
theorem dX0_takeFirstWay_111 : decode cX0_takeFirstWay 111 = .ok (.iinc 2 1, 3) := by decide +kernel
theorem dX0_takeFirstWay_114 : decode cX0_takeFirstWay 114 = .ok (.goto (-110), 3) := by decide +kernel
theorem dX0_takeFirstWay_117 : decode cX0_takeFirstWay 117 = .ok (.return_, 1) := by decide +kernel
theorem dX0_baring_0 : decode cX0_baring 0 = .ok (.aload_n 0, 1) := by decide +kernel
theorem dX0_baring_1 : decode cX0_baring 1 = .ok (.aload_n 1, 1) := by decide +kernel
theorem dX0_baring_2 : decode cX0_baring 2 = .ok (.getfield 55, 3) := by decide +kernel
theorem dX0_baring_5 : decode cX0_baring 5 = .ok (.invokevirtual 61, 3) := by decide +kernel
theorem dX0_baring_8 : decode cX0_baring 8 = .ok (.iconst 0, 1) := by decide +kernel
theorem dX0_baring_9 : decode cX0_baring 9 = .ok (.istore_n 3, 1) := by decide +kernel
theorem dX0_baring_10 : decode cX0_baring 10 = .ok (.iload_n 3, 1) := by decide +kernel
theorem dX0_baring_11 : decode cX0_baring 11 = .ok (.aload_n 0, 1) := by decide +kernel
theorem dX0_baring_12 : decode cX0_baring 12 = .ok (.getfield 36, 3) := by decide +kernel
theorem dX0_baring_15 : decode cX0_baring 15 = .ok (.if_icmp .ge 110, 3) := by decide +kernel
theorem dX0_baring_18 : decode cX0_baring 18 = .ok (.iconst 0, 1) := by decide +kernel
theorem dX0_baring_19 : decode cX0_baring 19 = .ok (.istore 4, 2) := by decide +kernel
theorem dX0_baring_21 : decode cX0_baring 21 = .ok (.iload 4, 2) := by decide +kernel
theorem dX0_baring_23 : decode cX0_baring 23 = .ok (.aload_n 0, 1) := by decide +kernel
theorem dX0_baring_24 : decode cX0_baring 24 = .ok (.getfield 40, 3) := by decide +kernel
theorem dX0_baring_27 : decode cX0_baring 27 = .ok (.if_icmp .ge 92, 3) := by decide +kernel
theorem dX0_baring_30 : decode cX0_baring 30 = .ok (.aload_n 1, 1) := by decide +kernel
theorem dX0_baring_31 : decode cX0_baring 31 = .ok (.aload_n 0, 1) := by decide +kernel
theorem dX0_baring_32 : decode cX0_baring 32 = .ok (.getfield 21, 3) := by decide +kernel
theorem dX0_baring_35 : decode cX0_baring 35 = .ok (.iload_n 3, 1) := by decide +kernel
theorem dX0_baring_36 : decode cX0_baring 36 = .ok (.iaload, 1) := by decide +kernel
theorem dX0_baring_37 : decode cX0_baring 37 = .ok (.aload_n 0, 1) := by decide +kernel
theorem dX0_baring_38 : decode cX0_baring 38 = .ok (.getfield 24, 3) := by decide +kernel
theorem dX0_baring_41 : decode cX0_baring 41 = .ok (.iload 4, 2) := by decide +kernel
theorem dX0_baring_43 : decode cX0_baring 43 = .ok (.iaload, 1) := by decide +kernel
theorem dX0_baring_44 : decode cX0_baring 44 = .ok (.invokevirtual 72, 3) := by decide +kernel
theorem dX0_baring_47 : decode cX0_baring 47 = .ok (.istore 5, 2) := by decide +kernel
theorem dX0_baring_49 : decode cX0_baring 49 = .ok (.iload 5, 2) := by decide +kernel
theorem dX0_baring_51 : decode cX0_baring 51 = .ok (.bipush 6, 2) := by decide +kernel
theorem dX0_baring_53 : decode cX0_baring 53 = .ok (.if_icmp .ge 7, 3) := by decide +kernel
theorem dX0_baring_56 : decode cX0_baring 56 = .ok (.iconst (-1), 1) := by decide +kernel
theorem dX0_baring_57 : decode cX0_baring 57 = .ok (.goto 24, 3) := by decide +kernel
theorem dX0_baring_60 : decode cX0_baring 60 = .ok (.aload_n 0, 1) := by decide +kernel
theorem dX0_baring_61 : decode cX0_baring 61 = .ok (.aload_n 1, 1) := by decide +kernel
theorem dX0_baring_62 : decode cX0_baring 62 = .ok (.aload_n 0, 1) := by decide +kernel
theorem dX0_baring_63 : decode cX0_baring 63 = .ok (.getfield 21, 3) := by decide +kernel
theorem dX0_baring_66 : decode cX0_baring 66 = .ok (.iload_n 3, 1) := by decide +kernel
theorem dX0_baring_67 : decode cX0_baring 67 = .ok (.iaload, 1) := by decide +kernel
theorem dX0_baring_68 : decode cX0_baring 68 = .ok (.aload_n 0, 1) := by decide +kernel
theorem dX0_baring_69 : decode cX0_baring 69 = .ok (.getfield 24, 3) := by decide +kernel
theorem dX0_baring_72 : decode cX0_baring 72 = .ok (.iload 4, 2) := by decide +kernel
theorem dX0_baring_74 : decode cX0_baring 74 = .ok (.iaload, 1) := by decide +kernel
theorem dX0_baring_75 : decode cX0_baring 75 = .ok (.iload 5, 2) := by decide +kernel
theorem dX0_baring_77 : decode cX0_baring 77 = .ok (.iload_n 2, 1) := by decide +kernel
theorem dX0_baring_78 : decode cX0_baring 78 = .ok (.invokevirtual 96, 3) := by decide +kernel
theorem dX0_baring_81 : decode cX0_baring 81 = .ok (.istore 6, 2) := by decide +kernel
theorem dX0_baring_83 : decode cX0_baring 83 = .ok (.iload 6, 2) := by decide +kernel
theorem dX0_baring_85 : decode cX0_baring 85 = .ok (.iconst (-1), 1) := by decide +kernel
theorem dX0_baring_86 : decode cX0_baring 86 = .ok (.if_icmp .eq 27, 3) := by decide +kernel
theorem dX0_baring_89 : decode cX0_baring 89 = .ok (.bipush 12, 2) := by decide +kernel
theorem dX0_baring_91 : decode cX0_baring 91 = .ok (.aload_n 0, 1) := by decide +kernel
theorem dX0_baring_92 : decode cX0_baring 92 = .ok (.getfield 21, 3) := by decide +kernel
theorem dX0_baring_95 : decode cX0_baring 95 = .ok (.iload_n 3, 1) := by decide +kernel
theorem dX0_baring_96 : decode cX0_baring 96 = .ok (.iaload, 1) := by decide +kernel
theorem dX0_baring_97 : decode cX0_baring 97 = .ok (.imul, 1) := by decide +kernel
theorem dX0_baring_98 : decode cX0_baring 98 = .ok (.aload_n 0, 1) := by decide +kernel
theorem dX0_baring_99 : decode cX0_baring 99 = .ok (.getfield 24, 3) := by decide +kernel
theorem dX0_baring_102 : decode cX0_baring 102 = .ok (.iload 4, 2) := by decide +kernel
theorem dX0_baring_104 : decode cX0_baring 104 = .ok (.iaload, 1) := by decide +kernel
theorem dX0_baring_105 : decode cX0_baring 105 = .ok (.iadd, 1) := by decide +kernel
theorem dX0_baring_106 : decode cX0_baring 106 = .ok (.bipush 56, 2) := by decide +kernel
theorem dX0_baring_108 : decode cX0_baring 108 = .ok (.imul, 1) := by decide +kernel
theorem dX0_baring_109 : decode cX0_baring 109 = .ok (.iload 6, 2) := by decide +kernel
theorem dX0_baring_111 : decode cX0_baring 111 = .ok (.iadd, 1) := by decide +kernel
theorem dX0_baring_112 : decode cX0_baring 112 = .ok (.ireturn, 1) := by decide +kernel
theorem dX0_baring_113 : decode cX0_baring 113 = .ok (.iinc 4 1, 3) := by decide +kernel
theorem dX0_baring_116 : decode cX0_baring 116 = .ok (.goto (-95), 3) := by decide +kernel
theorem dX0_baring_119 : decode cX0_baring 119 = .ok (.iinc 3 1, 3) := by decide +kernel
theorem dX0_baring_122 : decode cX0_baring 122 = .ok (.goto (-112), 3) := by decide +kernel
theorem dX0_baring_125 : decode cX0_baring 125 = .ok (.iconst (-1), 1) := by decide +kernel
theorem dX0_baring_126 : decode cX0_baring 126 = .ok (.ireturn, 1) := by decide +kernel
theorem dX0_firstBaring_0 : decode cX0_firstBaring 0 = .ok (.iconst 0, 1) := by decide +kernel
theorem dX0_firstBaring_1 : decode cX0_firstBaring 1 = .ok (.istore 6, 2) := by decide +kernel
theorem dX0_firstBaring_3 : decode cX0_firstBaring 3 = .ok (.iload 6, 2) := by decide +kernel
theorem dX0_firstBaring_5 : decode cX0_firstBaring 5 = .ok (.bipush 13, 2) := by decide +kernel
theorem dX0_firstBaring_7 : decode cX0_firstBaring 7 = .ok (.if_icmp .gt 17, 3) := by decide +kernel
theorem dX0_firstBaring_10 : decode cX0_firstBaring 10 = .ok (.aload_n 0, 1) := by decide +kernel
theorem dX0_firstBaring_11 : decode cX0_firstBaring 11 = .ok (.getfield 30, 3) := by decide +kernel
theorem dX0_firstBaring_14 : decode cX0_firstBaring 14 = .ok (.iload 6, 2) := by decide +kernel
theorem dX0_firstBaring_16 : decode cX0_firstBaring 16 = .ok (.iconst (-1), 1) := by decide +kernel
theorem dX0_firstBaring_17 : decode cX0_firstBaring 17 = .ok (.iastore, 1) := by decide +kernel
theorem dX0_firstBaring_18 : decode cX0_firstBaring 18 = .ok (.iinc 6 1, 3) := by decide +kernel
theorem dX0_firstBaring_21 : decode cX0_firstBaring 21 = .ok (.goto (-18), 3) := by decide +kernel
theorem dX0_firstBaring_24 : decode cX0_firstBaring 24 = .ok (.iconst 0, 1) := by decide +kernel
theorem dX0_firstBaring_25 : decode cX0_firstBaring 25 = .ok (.istore 6, 2) := by decide +kernel
theorem dX0_firstBaring_27 : decode cX0_firstBaring 27 = .ok (.iload 6, 2) := by decide +kernel
theorem dX0_firstBaring_29 : decode cX0_firstBaring 29 = .ok (.bipush 56, 2) := by decide +kernel
theorem dX0_firstBaring_31 : decode cX0_firstBaring 31 = .ok (.if_icmp .ge 92, 3) := by decide +kernel
theorem dX0_firstBaring_34 : decode cX0_firstBaring 34 = .ok (.iload 6, 2) := by decide +kernel
theorem dX0_firstBaring_36 : decode cX0_firstBaring 36 = .ok (.iload 5, 2) := by decide +kernel
theorem dX0_firstBaring_38 : decode cX0_firstBaring 38 = .ok (.invokestatic 100, 3) := by decide +kernel
theorem dX0_firstBaring_41 : decode cX0_firstBaring 41 = .ok (.istore 7, 2) := by decide +kernel
theorem dX0_firstBaring_43 : decode cX0_firstBaring 43 = .ok (.aload_n 1, 1) := by decide +kernel
theorem dX0_firstBaring_44 : decode cX0_firstBaring 44 = .ok (.iload 6, 2) := by decide +kernel
theorem dX0_firstBaring_46 : decode cX0_firstBaring 46 = .ok (.invokevirtual 103, 3) := by decide +kernel
theorem dX0_firstBaring_49 : decode cX0_firstBaring 49 = .ok (.ifCond .eq 68, 3) := by decide +kernel
theorem dX0_firstBaring_52 : decode cX0_firstBaring 52 = .ok (.iload 7, 2) := by decide +kernel
theorem dX0_firstBaring_54 : decode cX0_firstBaring 54 = .ok (.bipush 13, 2) := by decide +kernel
theorem dX0_firstBaring_56 : decode cX0_firstBaring 56 = .ok (.if_icmp .le 6, 3) := by decide +kernel
theorem dX0_firstBaring_59 : decode cX0_firstBaring 59 = .ok (.goto 58, 3) := by decide +kernel
theorem dX0_firstBaring_62 : decode cX0_firstBaring 62 = .ok (.aload_n 0, 1) := by decide +kernel
theorem dX0_firstBaring_63 : decode cX0_firstBaring 63 = .ok (.getfield 30, 3) := by decide +kernel
theorem dX0_firstBaring_66 : decode cX0_firstBaring 66 = .ok (.iload 7, 2) := by decide +kernel
theorem dX0_firstBaring_68 : decode cX0_firstBaring 68 = .ok (.iaload, 1) := by decide +kernel
theorem dX0_firstBaring_69 : decode cX0_firstBaring 69 = .ok (.iconst (-1), 1) := by decide +kernel
theorem dX0_firstBaring_70 : decode cX0_firstBaring 70 = .ok (.if_icmp .ne 27, 3) := by decide +kernel
theorem dX0_firstBaring_73 : decode cX0_firstBaring 73 = .ok (.aload_n 0, 1) := by decide +kernel
theorem dX0_firstBaring_74 : decode cX0_firstBaring 74 = .ok (.getfield 30, 3) := by decide +kernel
theorem dX0_firstBaring_77 : decode cX0_firstBaring 77 = .ok (.iload 7, 2) := by decide +kernel
theorem dX0_firstBaring_79 : decode cX0_firstBaring 79 = .ok (.aload_n 1, 1) := by decide +kernel
theorem dX0_firstBaring_80 : decode cX0_firstBaring 80 = .ok (.iload_n 2, 1) := by decide +kernel
theorem dX0_firstBaring_81 : decode cX0_firstBaring 81 = .ok (.iload_n 3, 1) := by decide +kernel
theorem dX0_firstBaring_82 : decode cX0_firstBaring 82 = .ok (.iload 4, 2) := by decide +kernel
theorem dX0_firstBaring_84 : decode cX0_firstBaring 84 = .ok (.iload 7, 2) := by decide +kernel
theorem dX0_firstBaring_86 : decode cX0_firstBaring 86 = .ok (.aload_n 1, 1) := by decide +kernel
theorem dX0_firstBaring_87 : decode cX0_firstBaring 87 = .ok (.getfield 106, 3) := by decide +kernel
theorem dX0_firstBaring_90 : decode cX0_firstBaring 90 = .ok (.iload 5, 2) := by decide +kernel
theorem dX0_firstBaring_92 : decode cX0_firstBaring 92 = .ok (.iaload, 1) := by decide +kernel
theorem dX0_firstBaring_93 : decode cX0_firstBaring 93 = .ok (.invokevirtual 109, 3) := by decide +kernel
theorem dX0_firstBaring_96 : decode cX0_firstBaring 96 = .ok (.iastore, 1) := by decide +kernel
theorem dX0_firstBaring_97 : decode cX0_firstBaring 97 = .ok (.aload_n 0, 1) := by decide +kernel
theorem dX0_firstBaring_98 : decode cX0_firstBaring 98 = .ok (.getfield 30, 3) := by decide +kernel
theorem dX0_firstBaring_101 : decode cX0_firstBaring 101 = .ok (.iload 7, 2) := by decide +kernel
theorem dX0_firstBaring_103 : decode cX0_firstBaring 103 = .ok (.iaload, 1) := by decide +kernel
theorem dX0_firstBaring_104 : decode cX0_firstBaring 104 = .ok (.aload_n 1, 1) := by decide +kernel
theorem dX0_firstBaring_105 : decode cX0_firstBaring 105 = .ok (.getfield 106, 3) := by decide +kernel
theorem dX0_firstBaring_108 : decode cX0_firstBaring 108 = .ok (.iload 5, 2) := by decide +kernel
theorem dX0_firstBaring_110 : decode cX0_firstBaring 110 = .ok (.iaload, 1) := by decide +kernel
theorem dX0_firstBaring_111 : decode cX0_firstBaring 111 = .ok (.if_icmp .lt 6, 3) := by decide +kernel
theorem dX0_firstBaring_114 : decode cX0_firstBaring 114 = .ok (.iload 6, 2) := by decide +kernel
theorem dX0_firstBaring_116 : decode cX0_firstBaring 116 = .ok (.ireturn, 1) := by decide +kernel
theorem dX0_firstBaring_117 : decode cX0_firstBaring 117 = .ok (.iinc 6 1, 3) := by decide +kernel
theorem dX0_firstBaring_120 : decode cX0_firstBaring 120 = .ok (.goto (-93), 3) := by decide +kernel
theorem dX0_firstBaring_123 : decode cX0_firstBaring 123 = .ok (.iconst (-1), 1) := by decide +kernel
theorem dX0_firstBaring_124 : decode cX0_firstBaring 124 = .ok (.ireturn, 1) := by decide +kernel
theorem dX0_nextToPass_0 : decode cX0_nextToPass 0 = .ok (.iconst (-1), 1) := by decide +kernel
theorem dX0_nextToPass_1 : decode cX0_nextToPass 1 = .ok (.istore 4, 2) := by decide +kernel
theorem dX0_nextToPass_3 : decode cX0_nextToPass 3 = .ok (.bipush 13, 2) := by decide +kernel
theorem dX0_nextToPass_5 : decode cX0_nextToPass 5 = .ok (.istore 5, 2) := by decide +kernel
theorem dX0_nextToPass_7 : decode cX0_nextToPass 7 = .ok (.iconst 0, 1) := by decide +kernel
theorem dX0_nextToPass_8 : decode cX0_nextToPass 8 = .ok (.istore 6, 2) := by decide +kernel
theorem dX0_nextToPass_10 : decode cX0_nextToPass 10 = .ok (.iload 6, 2) := by decide +kernel
theorem dX0_nextToPass_12 : decode cX0_nextToPass 12 = .ok (.aload_n 1, 1) := by decide +kernel
theorem dX0_nextToPass_13 : decode cX0_nextToPass 13 = .ok (.getfield 55, 3) := by decide +kernel
theorem dX0_nextToPass_16 : decode cX0_nextToPass 16 = .ok (.getfield 43, 3) := by decide +kernel
theorem dX0_nextToPass_19 : decode cX0_nextToPass 19 = .ok (.if_icmp .ge 65, 3) := by decide +kernel
theorem dX0_nextToPass_22 : decode cX0_nextToPass 22 = .ok (.iload 6, 2) := by decide +kernel
theorem dX0_nextToPass_24 : decode cX0_nextToPass 24 = .ok (.iload_n 2, 1) := by decide +kernel
theorem dX0_nextToPass_25 : decode cX0_nextToPass 25 = .ok (.if_icmp .eq 53, 3) := by decide +kernel
theorem dX0_nextToPass_28 : decode cX0_nextToPass 28 = .ok (.aload_n 1, 1) := by decide +kernel
theorem dX0_nextToPass_29 : decode cX0_nextToPass 29 = .ok (.getfield 55, 3) := by decide +kernel
theorem dX0_nextToPass_32 : decode cX0_nextToPass 32 = .ok (.getfield 52, 3) := by decide +kernel
theorem dX0_nextToPass_35 : decode cX0_nextToPass 35 = .ok (.iload 6, 2) := by decide +kernel
theorem dX0_nextToPass_37 : decode cX0_nextToPass 37 = .ok (.iaload, 1) := by decide +kernel
theorem dX0_nextToPass_38 : decode cX0_nextToPass 38 = .ok (.aload_n 1, 1) := by decide +kernel
theorem dX0_nextToPass_39 : decode cX0_nextToPass 39 = .ok (.getfield 55, 3) := by decide +kernel
theorem dX0_nextToPass_42 : decode cX0_nextToPass 42 = .ok (.getfield 52, 3) := by decide +kernel
theorem dX0_nextToPass_45 : decode cX0_nextToPass 45 = .ok (.iload_n 2, 1) := by decide +kernel
theorem dX0_nextToPass_46 : decode cX0_nextToPass 46 = .ok (.iaload, 1) := by decide +kernel
theorem dX0_nextToPass_47 : decode cX0_nextToPass 47 = .ok (.if_icmp .eq 6, 3) := by decide +kernel
theorem dX0_nextToPass_50 : decode cX0_nextToPass 50 = .ok (.goto 28, 3) := by decide +kernel
theorem dX0_nextToPass_53 : decode cX0_nextToPass 53 = .ok (.aload_n 0, 1) := by decide +kernel
theorem dX0_nextToPass_54 : decode cX0_nextToPass 54 = .ok (.aload_n 1, 1) := by decide +kernel
theorem dX0_nextToPass_55 : decode cX0_nextToPass 55 = .ok (.iload 6, 2) := by decide +kernel
theorem dX0_nextToPass_57 : decode cX0_nextToPass 57 = .ok (.iload_n 3, 1) := by decide +kernel
theorem dX0_nextToPass_58 : decode cX0_nextToPass 58 = .ok (.invokevirtual 113, 3) := by decide +kernel
theorem dX0_nextToPass_61 : decode cX0_nextToPass 61 = .ok (.istore 7, 2) := by decide +kernel
theorem dX0_nextToPass_63 : decode cX0_nextToPass 63 = .ok (.iload 7, 2) := by decide +kernel
theorem dX0_nextToPass_65 : decode cX0_nextToPass 65 = .ok (.iload 5, 2) := by decide +kernel
theorem dX0_nextToPass_67 : decode cX0_nextToPass 67 = .ok (.if_icmp .ge 11, 3) := by decide +kernel
theorem dX0_nextToPass_70 : decode cX0_nextToPass 70 = .ok (.iload 6, 2) := by decide +kernel
theorem dX0_nextToPass_72 : decode cX0_nextToPass 72 = .ok (.istore 4, 2) := by decide +kernel
theorem dX0_nextToPass_74 : decode cX0_nextToPass 74 = .ok (.iload 7, 2) := by decide +kernel
theorem dX0_nextToPass_76 : decode cX0_nextToPass 76 = .ok (.istore 5, 2) := by decide +kernel
theorem dX0_nextToPass_78 : decode cX0_nextToPass 78 = .ok (.iinc 6 1, 3) := by decide +kernel
theorem dX0_nextToPass_81 : decode cX0_nextToPass 81 = .ok (.goto (-71), 3) := by decide +kernel
theorem dX0_nextToPass_84 : decode cX0_nextToPass 84 = .ok (.iload 4, 2) := by decide +kernel
theorem dX0_nextToPass_86 : decode cX0_nextToPass 86 = .ok (.ireturn, 1) := by decide +kernel
theorem dX0_mostAlike_0 : decode cX0_mostAlike 0 = .ok (.iconst 0, 1) := by decide +kernel
theorem dX0_mostAlike_1 : decode cX0_mostAlike 1 = .ok (.istore 4, 2) := by decide +kernel
theorem dX0_mostAlike_3 : decode cX0_mostAlike 3 = .ok (.iload 4, 2) := by decide +kernel
theorem dX0_mostAlike_5 : decode cX0_mostAlike 5 = .ok (.bipush 10, 2) := by decide +kernel
theorem dX0_mostAlike_7 : decode cX0_mostAlike 7 = .ok (.if_icmp .ge 17, 3) := by decide +kernel
theorem dX0_mostAlike_10 : decode cX0_mostAlike 10 = .ok (.aload_n 0, 1) := by decide +kernel
theorem dX0_mostAlike_11 : decode cX0_mostAlike 11 = .ok (.getfield 33, 3) := by decide +kernel
theorem dX0_mostAlike_14 : decode cX0_mostAlike 14 = .ok (.iload 4, 2) := by decide +kernel
theorem dX0_mostAlike_16 : decode cX0_mostAlike 16 = .ok (.iconst 0, 1) := by decide +kernel
theorem dX0_mostAlike_17 : decode cX0_mostAlike 17 = .ok (.iastore, 1) := by decide +kernel
theorem dX0_mostAlike_18 : decode cX0_mostAlike 18 = .ok (.iinc 4 1, 3) := by decide +kernel
theorem dX0_mostAlike_21 : decode cX0_mostAlike 21 = .ok (.goto (-18), 3) := by decide +kernel
theorem dX0_mostAlike_24 : decode cX0_mostAlike 24 = .ok (.iconst 0, 1) := by decide +kernel
theorem dX0_mostAlike_25 : decode cX0_mostAlike 25 = .ok (.istore 4, 2) := by decide +kernel
theorem dX0_mostAlike_27 : decode cX0_mostAlike 27 = .ok (.iconst 0, 1) := by decide +kernel
theorem dX0_mostAlike_28 : decode cX0_mostAlike 28 = .ok (.istore 5, 2) := by decide +kernel
theorem dX0_mostAlike_30 : decode cX0_mostAlike 30 = .ok (.iload 5, 2) := by decide +kernel
theorem dX0_mostAlike_32 : decode cX0_mostAlike 32 = .ok (.aload_n 1, 1) := by decide +kernel
theorem dX0_mostAlike_33 : decode cX0_mostAlike 33 = .ok (.getfield 55, 3) := by decide +kernel
theorem dX0_mostAlike_36 : decode cX0_mostAlike 36 = .ok (.getfield 43, 3) := by decide +kernel
theorem dX0_mostAlike_39 : decode cX0_mostAlike 39 = .ok (.if_icmp .ge 58, 3) := by decide +kernel
theorem dX0_mostAlike_42 : decode cX0_mostAlike 42 = .ok (.iload_n 3, 1) := by decide +kernel
theorem dX0_mostAlike_43 : decode cX0_mostAlike 43 = .ok (.iload 5, 2) := by decide +kernel
theorem dX0_mostAlike_45 : decode cX0_mostAlike 45 = .ok (.ishr, 1) := by decide +kernel
theorem dX0_mostAlike_46 : decode cX0_mostAlike 46 = .ok (.iconst 1, 1) := by decide +kernel
theorem dX0_mostAlike_47 : decode cX0_mostAlike 47 = .ok (.iand, 1) := by decide +kernel
theorem dX0_mostAlike_48 : decode cX0_mostAlike 48 = .ok (.iconst 1, 1) := by decide +kernel
theorem dX0_mostAlike_49 : decode cX0_mostAlike 49 = .ok (.if_icmp .ne 42, 3) := by decide +kernel
theorem dX0_mostAlike_52 : decode cX0_mostAlike 52 = .ok (.aload_n 1, 1) := by decide +kernel
theorem dX0_mostAlike_53 : decode cX0_mostAlike 53 = .ok (.iload_n 2, 1) := by decide +kernel
theorem dX0_mostAlike_54 : decode cX0_mostAlike 54 = .ok (.iload 5, 2) := by decide +kernel
theorem dX0_mostAlike_56 : decode cX0_mostAlike 56 = .ok (.invokevirtual 72, 3) := by decide +kernel
theorem dX0_mostAlike_59 : decode cX0_mostAlike 59 = .ok (.bipush 9, 2) := by decide +kernel
theorem dX0_mostAlike_61 : decode cX0_mostAlike 61 = .ok (.invokestatic 117, 3) := by decide +kernel
theorem dX0_mostAlike_64 : decode cX0_mostAlike 64 = .ok (.istore 6, 2) := by decide +kernel
theorem dX0_mostAlike_66 : decode cX0_mostAlike 66 = .ok (.aload_n 0, 1) := by decide +kernel
theorem dX0_mostAlike_67 : decode cX0_mostAlike 67 = .ok (.getfield 33, 3) := by decide +kernel
theorem dX0_mostAlike_70 : decode cX0_mostAlike 70 = .ok (.iload 6, 2) := by decide +kernel
theorem dX0_mostAlike_72 : decode cX0_mostAlike 72 = .ok (.dup2, 1) := by decide +kernel
theorem dX0_mostAlike_73 : decode cX0_mostAlike 73 = .ok (.iaload, 1) := by decide +kernel
theorem dX0_mostAlike_74 : decode cX0_mostAlike 74 = .ok (.iconst 1, 1) := by decide +kernel
theorem dX0_mostAlike_75 : decode cX0_mostAlike 75 = .ok (.iadd, 1) := by decide +kernel
theorem dX0_mostAlike_76 : decode cX0_mostAlike 76 = .ok (.iastore, 1) := by decide +kernel
theorem dX0_mostAlike_77 : decode cX0_mostAlike 77 = .ok (.iload 4, 2) := by decide +kernel
theorem dX0_mostAlike_79 : decode cX0_mostAlike 79 = .ok (.aload_n 0, 1) := by decide +kernel
theorem dX0_mostAlike_80 : decode cX0_mostAlike 80 = .ok (.getfield 33, 3) := by decide +kernel
theorem dX0_mostAlike_83 : decode cX0_mostAlike 83 = .ok (.iload 6, 2) := by decide +kernel
theorem dX0_mostAlike_85 : decode cX0_mostAlike 85 = .ok (.iaload, 1) := by decide +kernel
theorem dX0_mostAlike_86 : decode cX0_mostAlike 86 = .ok (.invokestatic 91, 3) := by decide +kernel
theorem dX0_mostAlike_89 : decode cX0_mostAlike 89 = .ok (.istore 4, 2) := by decide +kernel
theorem dX0_mostAlike_91 : decode cX0_mostAlike 91 = .ok (.iinc 5 1, 3) := by decide +kernel
theorem dX0_mostAlike_94 : decode cX0_mostAlike 94 = .ok (.goto (-64), 3) := by decide +kernel
theorem dX0_mostAlike_97 : decode cX0_mostAlike 97 = .ok (.iload 4, 2) := by decide +kernel
theorem dX0_mostAlike_99 : decode cX0_mostAlike 99 = .ok (.ireturn, 1) := by decide +kernel
theorem dX1_init_0 : decode cX1_init 0 = .ok (.aload_n 0, 1) := by decide +kernel
theorem dX1_init_1 : decode cX1_init 1 = .ok (.invokespecial 3, 3) := by decide +kernel
theorem dX1_init_4 : decode cX1_init 4 = .ok (.aload_n 0, 1) := by decide +kernel
theorem dX1_init_5 : decode cX1_init 5 = .ok (.bipush 12, 2) := by decide +kernel
theorem dX1_init_7 : decode cX1_init 7 = .ok (.newarray .int, 2) := by decide +kernel
theorem dX1_init_9 : decode cX1_init 9 = .ok (.putfield 9, 3) := by decide +kernel
theorem dX1_init_12 : decode cX1_init 12 = .ok (.aload_n 0, 1) := by decide +kernel
theorem dX1_init_13 : decode cX1_init 13 = .ok (.bipush 12, 2) := by decide +kernel
theorem dX1_init_15 : decode cX1_init 15 = .ok (.newarray .int, 2) := by decide +kernel
theorem dX1_init_17 : decode cX1_init 17 = .ok (.putfield 15, 3) := by decide +kernel
theorem dX1_init_20 : decode cX1_init 20 = .ok (.aload_n 0, 1) := by decide +kernel
theorem dX1_init_21 : decode cX1_init 21 = .ok (.bipush 12, 2) := by decide +kernel
theorem dX1_init_23 : decode cX1_init 23 = .ok (.newarray .int, 2) := by decide +kernel
theorem dX1_init_25 : decode cX1_init 25 = .ok (.putfield 18, 3) := by decide +kernel
theorem dX1_init_28 : decode cX1_init 28 = .ok (.aload_n 0, 1) := by decide +kernel
theorem dX1_init_29 : decode cX1_init 29 = .ok (.bipush 12, 2) := by decide +kernel
theorem dX1_init_31 : decode cX1_init 31 = .ok (.newarray .int, 2) := by decide +kernel
theorem dX1_init_33 : decode cX1_init 33 = .ok (.putfield 21, 3) := by decide +kernel
theorem dX1_init_36 : decode cX1_init 36 = .ok (.aload_n 0, 1) := by decide +kernel
theorem dX1_init_37 : decode cX1_init 37 = .ok (.bipush 12, 2) := by decide +kernel
theorem dX1_init_39 : decode cX1_init 39 = .ok (.newarray .int, 2) := by decide +kernel
theorem dX1_init_41 : decode cX1_init 41 = .ok (.putfield 24, 3) := by decide +kernel
theorem dX1_init_44 : decode cX1_init 44 = .ok (.aload_n 0, 1) := by decide +kernel
theorem dX1_init_45 : decode cX1_init 45 = .ok (.bipush 12, 2) := by decide +kernel
theorem dX1_init_47 : decode cX1_init 47 = .ok (.newarray .int, 2) := by decide +kernel
theorem dX1_init_49 : decode cX1_init 49 = .ok (.putfield 27, 3) := by decide +kernel
theorem dX1_init_52 : decode cX1_init 52 = .ok (.return_, 1) := by decide +kernel
theorem dX1_add_0 : decode cX1_add 0 = .ok (.aload_n 0, 1) := by decide +kernel
theorem dX1_add_1 : decode cX1_add 1 = .ok (.getfield 30, 3) := by decide +kernel
theorem dX1_add_4 : decode cX1_add 4 = .ok (.bipush 12, 2) := by decide +kernel
theorem dX1_add_6 : decode cX1_add 6 = .ok (.if_icmp .lt 5, 3) := by decide +kernel
theorem dX1_add_9 : decode cX1_add 9 = .ok (.iconst (-1), 1) := by decide +kernel
theorem dX1_add_10 : decode cX1_add 10 = .ok (.ireturn, 1) := by decide +kernel
theorem dX1_add_11 : decode cX1_add 11 = .ok (.aload_n 0, 1) := by decide +kernel
theorem dX1_add_12 : decode cX1_add 12 = .ok (.getfield 9, 3) := by decide +kernel
theorem dX1_add_15 : decode cX1_add 15 = .ok (.aload_n 0, 1) := by decide +kernel
theorem dX1_add_16 : decode cX1_add 16 = .ok (.getfield 30, 3) := by decide +kernel
theorem dX1_add_19 : decode cX1_add 19 = .ok (.iload_n 1, 1) := by decide +kernel
theorem dX1_add_20 : decode cX1_add 20 = .ok (.iastore, 1) := by decide +kernel
theorem dX1_add_21 : decode cX1_add 21 = .ok (.aload_n 0, 1) := by decide +kernel
theorem dX1_add_22 : decode cX1_add 22 = .ok (.getfield 15, 3) := by decide +kernel
theorem dX1_add_25 : decode cX1_add 25 = .ok (.aload_n 0, 1) := by decide +kernel
theorem dX1_add_26 : decode cX1_add 26 = .ok (.getfield 30, 3) := by decide +kernel
theorem dX1_add_29 : decode cX1_add 29 = .ok (.iload_n 2, 1) := by decide +kernel
theorem dX1_add_30 : decode cX1_add 30 = .ok (.iastore, 1) := by decide +kernel
theorem dX1_add_31 : decode cX1_add 31 = .ok (.aload_n 0, 1) := by decide +kernel
theorem dX1_add_32 : decode cX1_add 32 = .ok (.getfield 18, 3) := by decide +kernel
theorem dX1_add_35 : decode cX1_add 35 = .ok (.aload_n 0, 1) := by decide +kernel
theorem dX1_add_36 : decode cX1_add 36 = .ok (.getfield 30, 3) := by decide +kernel
theorem dX1_add_39 : decode cX1_add 39 = .ok (.iload_n 3, 1) := by decide +kernel
theorem dX1_add_40 : decode cX1_add 40 = .ok (.iastore, 1) := by decide +kernel
theorem dX1_add_41 : decode cX1_add 41 = .ok (.aload_n 0, 1) := by decide +kernel
theorem dX1_add_42 : decode cX1_add 42 = .ok (.getfield 21, 3) := by decide +kernel
theorem dX1_add_45 : decode cX1_add 45 = .ok (.aload_n 0, 1) := by decide +kernel
theorem dX1_add_46 : decode cX1_add 46 = .ok (.getfield 30, 3) := by decide +kernel
theorem dX1_add_49 : decode cX1_add 49 = .ok (.iload 4, 2) := by decide +kernel
theorem dX1_add_51 : decode cX1_add 51 = .ok (.iastore, 1) := by decide +kernel
theorem dX1_add_52 : decode cX1_add 52 = .ok (.aload_n 0, 1) := by decide +kernel
theorem dX1_add_53 : decode cX1_add 53 = .ok (.getfield 24, 3) := by decide +kernel
theorem dX1_add_56 : decode cX1_add 56 = .ok (.aload_n 0, 1) := by decide +kernel
theorem dX1_add_57 : decode cX1_add 57 = .ok (.getfield 30, 3) := by decide +kernel
theorem dX1_add_60 : decode cX1_add 60 = .ok (.iconst (-1), 1) := by decide +kernel
theorem dX1_add_61 : decode cX1_add 61 = .ok (.iastore, 1) := by decide +kernel
theorem dX1_add_62 : decode cX1_add 62 = .ok (.aload_n 0, 1) := by decide +kernel
theorem dX1_add_63 : decode cX1_add 63 = .ok (.getfield 27, 3) := by decide +kernel
theorem dX1_add_66 : decode cX1_add 66 = .ok (.aload_n 0, 1) := by decide +kernel
theorem dX1_add_67 : decode cX1_add 67 = .ok (.getfield 30, 3) := by decide +kernel
theorem dX1_add_70 : decode cX1_add 70 = .ok (.iconst 0, 1) := by decide +kernel
theorem dX1_add_71 : decode cX1_add 71 = .ok (.iastore, 1) := by decide +kernel
theorem dX1_add_72 : decode cX1_add 72 = .ok (.aload_n 0, 1) := by decide +kernel
theorem dX1_add_73 : decode cX1_add 73 = .ok (.dup, 1) := by decide +kernel
theorem dX1_add_74 : decode cX1_add 74 = .ok (.getfield 30, 3) := by decide +kernel
theorem dX1_add_77 : decode cX1_add 77 = .ok (.iconst 1, 1) := by decide +kernel
theorem dX1_add_78 : decode cX1_add 78 = .ok (.iadd, 1) := by decide +kernel
theorem dX1_add_79 : decode cX1_add 79 = .ok (.putfield 30, 3) := by decide +kernel
theorem dX1_add_82 : decode cX1_add 82 = .ok (.aload_n 0, 1) := by decide +kernel
theorem dX1_add_83 : decode cX1_add 83 = .ok (.getfield 30, 3) := by decide +kernel
theorem dX1_add_86 : decode cX1_add 86 = .ok (.iconst 1, 1) := by decide +kernel
theorem dX1_add_87 : decode cX1_add 87 = .ok (.isub, 1) := by decide +kernel
theorem dX1_add_88 : decode cX1_add 88 = .ok (.ireturn, 1) := by decide +kernel
theorem dX1_has_0 : decode cX1_has 0 = .ok (.iload_n 1, 1) := by decide +kernel
theorem dX1_has_1 : decode cX1_has 1 = .ok (.ifCond .lt 15, 3) := by decide +kernel
theorem dX1_has_4 : decode cX1_has 4 = .ok (.iload_n 1, 1) := by decide +kernel
theorem dX1_has_5 : decode cX1_has 5 = .ok (.aload_n 0, 1) := by decide +kernel
theorem dX1_has_6 : decode cX1_has 6 = .ok (.getfield 30, 3) := by decide +kernel
theorem dX1_has_9 : decode cX1_has 9 = .ok (.if_icmp .ge 7, 3) := by decide +kernel
theorem dX1_has_12 : decode cX1_has 12 = .ok (.iconst 1, 1) := by decide +kernel
theorem dX1_has_13 : decode cX1_has 13 = .ok (.goto 4, 3) := by decide +kernel
theorem dX1_has_16 : decode cX1_has 16 = .ok (.iconst 0, 1) := by decide +kernel
theorem dX1_has_17 : decode cX1_has 17 = .ok (.ireturn, 1) := by decide +kernel
theorem dX1_areTwo_0 : decode cX1_areTwo 0 = .ok (.aload_n 0, 1) := by decide +kernel
theorem dX1_areTwo_1 : decode cX1_areTwo 1 = .ok (.iload_n 1, 1) := by decide +kernel
theorem dX1_areTwo_2 : decode cX1_areTwo 2 = .ok (.invokevirtual 34, 3) := by decide +kernel
theorem dX1_areTwo_5 : decode cX1_areTwo 5 = .ok (.ifCond .eq 20, 3) := by decide +kernel
theorem dX1_areTwo_8 : decode cX1_areTwo 8 = .ok (.aload_n 0, 1) := by decide +kernel
theorem dX1_areTwo_9 : decode cX1_areTwo 9 = .ok (.iload_n 2, 1) := by decide +kernel
theorem dX1_areTwo_10 : decode cX1_areTwo 10 = .ok (.invokevirtual 34, 3) := by decide +kernel
theorem dX1_areTwo_13 : decode cX1_areTwo 13 = .ok (.ifCond .eq 12, 3) := by decide +kernel
theorem dX1_areTwo_16 : decode cX1_areTwo 16 = .ok (.iload_n 1, 1) := by decide +kernel
theorem dX1_areTwo_17 : decode cX1_areTwo 17 = .ok (.iload_n 2, 1) := by decide +kernel
theorem dX1_areTwo_18 : decode cX1_areTwo 18 = .ok (.if_icmp .eq 7, 3) := by decide +kernel
theorem dX1_areTwo_21 : decode cX1_areTwo 21 = .ok (.iconst 1, 1) := by decide +kernel
theorem dX1_areTwo_22 : decode cX1_areTwo 22 = .ok (.goto 4, 3) := by decide +kernel
theorem dX1_areTwo_25 : decode cX1_areTwo 25 = .ok (.iconst 0, 1) := by decide +kernel
theorem dX1_areTwo_26 : decode cX1_areTwo 26 = .ok (.ireturn, 1) := by decide +kernel
theorem dX1_isFree_0 : decode cX1_isFree 0 = .ok (.aload_n 0, 1) := by decide +kernel
theorem dX1_isFree_1 : decode cX1_isFree 1 = .ok (.iload_n 1, 1) := by decide +kernel
theorem dX1_isFree_2 : decode cX1_isFree 2 = .ok (.invokevirtual 34, 3) := by decide +kernel
theorem dX1_isFree_5 : decode cX1_isFree 5 = .ok (.ifCond .eq 17, 3) := by decide +kernel
theorem dX1_isFree_8 : decode cX1_isFree 8 = .ok (.aload_n 0, 1) := by decide +kernel
theorem dX1_isFree_9 : decode cX1_isFree 9 = .ok (.getfield 24, 3) := by decide +kernel
theorem dX1_isFree_12 : decode cX1_isFree 12 = .ok (.iload_n 1, 1) := by decide +kernel
theorem dX1_isFree_13 : decode cX1_isFree 13 = .ok (.iaload, 1) := by decide +kernel
theorem dX1_isFree_14 : decode cX1_isFree 14 = .ok (.iconst (-1), 1) := by decide +kernel
theorem dX1_isFree_15 : decode cX1_isFree 15 = .ok (.if_icmp .ne 7, 3) := by decide +kernel
theorem dX1_isFree_18 : decode cX1_isFree 18 = .ok (.iconst 1, 1) := by decide +kernel
theorem dX1_isFree_19 : decode cX1_isFree 19 = .ok (.goto 4, 3) := by decide +kernel
theorem dX1_isFree_22 : decode cX1_isFree 22 = .ok (.iconst 0, 1) := by decide +kernel
theorem dX1_isFree_23 : decode cX1_isFree 23 = .ok (.ireturn, 1) := by decide +kernel
theorem dX1_canWed_0 : decode cX1_canWed 0 = .ok (.aload_n 0, 1) := by decide +kernel
theorem dX1_canWed_1 : decode cX1_canWed 1 = .ok (.iload_n 1, 1) := by decide +kernel
theorem dX1_canWed_2 : decode cX1_canWed 2 = .ok (.invokevirtual 38, 3) := by decide +kernel
theorem dX1_canWed_5 : decode cX1_canWed 5 = .ok (.ifCond .eq 30, 3) := by decide +kernel
theorem dX1_canWed_8 : decode cX1_canWed 8 = .ok (.aload_n 0, 1) := by decide +kernel
theorem dX1_canWed_9 : decode cX1_canWed 9 = .ok (.iload_n 2, 1) := by decide +kernel
theorem dX1_canWed_10 : decode cX1_canWed 10 = .ok (.invokevirtual 38, 3) := by decide +kernel
theorem dX1_canWed_13 : decode cX1_canWed 13 = .ok (.ifCond .eq 22, 3) := by decide +kernel
theorem dX1_canWed_16 : decode cX1_canWed 16 = .ok (.aload_n 0, 1) := by decide +kernel
theorem dX1_canWed_17 : decode cX1_canWed 17 = .ok (.getfield 9, 3) := by decide +kernel
theorem dX1_canWed_20 : decode cX1_canWed 20 = .ok (.iload_n 1, 1) := by decide +kernel
theorem dX1_canWed_21 : decode cX1_canWed 21 = .ok (.iaload, 1) := by decide +kernel
theorem dX1_canWed_22 : decode cX1_canWed 22 = .ok (.aload_n 0, 1) := by decide +kernel
theorem dX1_canWed_23 : decode cX1_canWed 23 = .ok (.getfield 9, 3) := by decide +kernel
theorem dX1_canWed_26 : decode cX1_canWed 26 = .ok (.iload_n 2, 1) := by decide +kernel
theorem dX1_canWed_27 : decode cX1_canWed 27 = .ok (.iaload, 1) := by decide +kernel
theorem dX1_canWed_28 : decode cX1_canWed 28 = .ok (.if_icmp .eq 7, 3) := by decide +kernel
theorem dX1_canWed_31 : decode cX1_canWed 31 = .ok (.iconst 1, 1) := by decide +kernel
theorem dX1_canWed_32 : decode cX1_canWed 32 = .ok (.goto 4, 3) := by decide +kernel
theorem dX1_canWed_35 : decode cX1_canWed 35 = .ok (.iconst 0, 1) := by decide +kernel
theorem dX1_canWed_36 : decode cX1_canWed 36 = .ok (.ireturn, 1) := by decide +kernel
theorem dX1_areKin_0 : decode cX1_areKin 0 = .ok (.aload_n 0, 1) := by decide +kernel
theorem dX1_areKin_1 : decode cX1_areKin 1 = .ok (.getfield 27, 3) := by decide +kernel
theorem dX1_areKin_4 : decode cX1_areKin 4 = .ok (.iload_n 1, 1) := by decide +kernel
theorem dX1_areKin_5 : decode cX1_areKin 5 = .ok (.iaload, 1) := by decide +kernel
theorem dX1_areKin_6 : decode cX1_areKin 6 = .ok (.iload_n 2, 1) := by decide +kernel
theorem dX1_areKin_7 : decode cX1_areKin 7 = .ok (.ishr, 1) := by decide +kernel
theorem dX1_areKin_8 : decode cX1_areKin 8 = .ok (.iconst 1, 1) := by decide +kernel
theorem dX1_areKin_9 : decode cX1_areKin 9 = .ok (.iand, 1) := by decide +kernel
theorem dX1_areKin_10 : decode cX1_areKin 10 = .ok (.iconst 1, 1) := by decide +kernel
theorem dX1_areKin_11 : decode cX1_areKin 11 = .ok (.if_icmp .ne 7, 3) := by decide +kernel
theorem dX1_areKin_14 : decode cX1_areKin 14 = .ok (.iconst 1, 1) := by decide +kernel
theorem dX1_areKin_15 : decode cX1_areKin 15 = .ok (.goto 4, 3) := by decide +kernel
theorem dX1_areKin_18 : decode cX1_areKin 18 = .ok (.iconst 0, 1) := by decide +kernel
theorem dX1_areKin_19 : decode cX1_areKin 19 = .ok (.ireturn, 1) := by decide +kernel
theorem dX1_makeKin_0 : decode cX1_makeKin 0 = .ok (.iload_n 3, 1) := by decide +kernel
theorem dX1_makeKin_1 : decode cX1_makeKin 1 = .ok (.ifCond .eq 30, 3) := by decide +kernel
theorem dX1_makeKin_4 : decode cX1_makeKin 4 = .ok (.aload_n 0, 1) := by decide +kernel
theorem dX1_makeKin_5 : decode cX1_makeKin 5 = .ok (.getfield 27, 3) := by decide +kernel
theorem dX1_makeKin_8 : decode cX1_makeKin 8 = .ok (.iload_n 1, 1) := by decide +kernel
theorem dX1_makeKin_9 : decode cX1_makeKin 9 = .ok (.dup2, 1) := by decide +kernel
theorem dX1_makeKin_10 : decode cX1_makeKin 10 = .ok (.iaload, 1) := by decide +kernel
theorem dX1_makeKin_11 : decode cX1_makeKin 11 = .ok (.iconst 1, 1) := by decide +kernel
theorem dX1_makeKin_12 : decode cX1_makeKin 12 = .ok (.iload_n 2, 1) := by decide +kernel
theorem dX1_makeKin_13 : decode cX1_makeKin 13 = .ok (.ishl, 1) := by decide +kernel
theorem dX1_makeKin_14 : decode cX1_makeKin 14 = .ok (.ior, 1) := by decide +kernel
theorem dX1_makeKin_15 : decode cX1_makeKin 15 = .ok (.iastore, 1) := by decide +kernel
theorem dX1_makeKin_16 : decode cX1_makeKin 16 = .ok (.aload_n 0, 1) := by decide +kernel
theorem dX1_makeKin_17 : decode cX1_makeKin 17 = .ok (.getfield 27, 3) := by decide +kernel
theorem dX1_makeKin_20 : decode cX1_makeKin 20 = .ok (.iload_n 2, 1) := by decide +kernel
theorem dX1_makeKin_21 : decode cX1_makeKin 21 = .ok (.dup2, 1) := by decide +kernel
theorem dX1_makeKin_22 : decode cX1_makeKin 22 = .ok (.iaload, 1) := by decide +kernel
theorem dX1_makeKin_23 : decode cX1_makeKin 23 = .ok (.iconst 1, 1) := by decide +kernel
theorem dX1_makeKin_24 : decode cX1_makeKin 24 = .ok (.iload_n 1, 1) := by decide +kernel
theorem dX1_makeKin_25 : decode cX1_makeKin 25 = .ok (.ishl, 1) := by decide +kernel
theorem dX1_makeKin_26 : decode cX1_makeKin 26 = .ok (.ior, 1) := by decide +kernel
theorem dX1_makeKin_27 : decode cX1_makeKin 27 = .ok (.iastore, 1) := by decide +kernel
theorem dX1_makeKin_28 : decode cX1_makeKin 28 = .ok (.goto 31, 3) := by decide +kernel
theorem dX1_makeKin_31 : decode cX1_makeKin 31 = .ok (.aload_n 0, 1) := by decide +kernel
theorem dX1_makeKin_32 : decode cX1_makeKin 32 = .ok (.getfield 27, 3) := by decide +kernel
theorem dX1_makeKin_35 : decode cX1_makeKin 35 = .ok (.iload_n 1, 1) := by decide +kernel
theorem dX1_makeKin_36 : decode cX1_makeKin 36 = .ok (.dup2, 1) := by decide +kernel
theorem dX1_makeKin_37 : decode cX1_makeKin 37 = .ok (.iaload, 1) := by decide +kernel
theorem dX1_makeKin_38 : decode cX1_makeKin 38 = .ok (.iconst 1, 1) := by decide +kernel
theorem dX1_makeKin_39 : decode cX1_makeKin 39 = .ok (.iload_n 2, 1) := by decide +kernel
theorem dX1_makeKin_40 : decode cX1_makeKin 40 = .ok (.ishl, 1) := by decide +kernel
theorem dX1_makeKin_41 : decode cX1_makeKin 41 = .ok (.iconst (-1), 1) := by decide +kernel
theorem dX1_makeKin_42 : decode cX1_makeKin 42 = .ok (.ixor, 1) := by decide +kernel
theorem dX1_makeKin_43 : decode cX1_makeKin 43 = .ok (.iand, 1) := by decide +kernel
theorem dX1_makeKin_44 : decode cX1_makeKin 44 = .ok (.iastore, 1) := by decide +kernel
theorem dX1_makeKin_45 : decode cX1_makeKin 45 = .ok (.aload_n 0, 1) := by decide +kernel
theorem dX1_makeKin_46 : decode cX1_makeKin 46 = .ok (.getfield 27, 3) := by decide +kernel
theorem dX1_makeKin_49 : decode cX1_makeKin 49 = .ok (.iload_n 2, 1) := by decide +kernel
theorem dX1_makeKin_50 : decode cX1_makeKin 50 = .ok (.dup2, 1) := by decide +kernel
theorem dX1_makeKin_51 : decode cX1_makeKin 51 = .ok (.iaload, 1) := by decide +kernel
theorem dX1_makeKin_52 : decode cX1_makeKin 52 = .ok (.iconst 1, 1) := by decide +kernel
theorem dX1_makeKin_53 : decode cX1_makeKin 53 = .ok (.iload_n 1, 1) := by decide +kernel
theorem dX1_makeKin_54 : decode cX1_makeKin 54 = .ok (.ishl, 1) := by decide +kernel
theorem dX1_makeKin_55 : decode cX1_makeKin 55 = .ok (.iconst (-1), 1) := by decide +kernel
theorem dX1_makeKin_56 : decode cX1_makeKin 56 = .ok (.ixor, 1) := by decide +kernel
theorem dX1_makeKin_57 : decode cX1_makeKin 57 = .ok (.iand, 1) := by decide +kernel
theorem dX1_makeKin_58 : decode cX1_makeKin 58 = .ok (.iastore, 1) := by decide +kernel
theorem dX1_makeKin_59 : decode cX1_makeKin 59 = .ok (.return_, 1) := by decide +kernel
theorem dX1_wedSet_0 : decode cX1_wedSet 0 = .ok (.iconst 0, 1) := by decide +kernel
theorem dX1_wedSet_1 : decode cX1_wedSet 1 = .ok (.istore_n 1, 1) := by decide +kernel
theorem dX1_wedSet_2 : decode cX1_wedSet 2 = .ok (.iconst 0, 1) := by decide +kernel
theorem dX1_wedSet_3 : decode cX1_wedSet 3 = .ok (.istore_n 2, 1) := by decide +kernel
theorem dX1_wedSet_4 : decode cX1_wedSet 4 = .ok (.iload_n 2, 1) := by decide +kernel
theorem dX1_wedSet_5 : decode cX1_wedSet 5 = .ok (.aload_n 0, 1) := by decide +kernel
theorem dX1_wedSet_6 : decode cX1_wedSet 6 = .ok (.getfield 30, 3) := by decide +kernel
theorem dX1_wedSet_9 : decode cX1_wedSet 9 = .ok (.if_icmp .ge 25, 3) := by decide +kernel
theorem dX1_wedSet_12 : decode cX1_wedSet 12 = .ok (.aload_n 0, 1) := by decide +kernel
theorem dX1_wedSet_13 : decode cX1_wedSet 13 = .ok (.getfield 24, 3) := by decide +kernel
theorem dX1_wedSet_16 : decode cX1_wedSet 16 = .ok (.iload_n 2, 1) := by decide +kernel
theorem dX1_wedSet_17 : decode cX1_wedSet 17 = .ok (.iaload, 1) := by decide +kernel
theorem dX1_wedSet_18 : decode cX1_wedSet 18 = .ok (.iconst (-1), 1) := by decide +kernel
theorem dX1_wedSet_19 : decode cX1_wedSet 19 = .ok (.if_icmp .eq 9, 3) := by decide +kernel
theorem dX1_wedSet_22 : decode cX1_wedSet 22 = .ok (.iload_n 1, 1) := by decide +kernel
theorem dX1_wedSet_23 : decode cX1_wedSet 23 = .ok (.iconst 1, 1) := by decide +kernel
theorem dX1_wedSet_24 : decode cX1_wedSet 24 = .ok (.iload_n 2, 1) := by decide +kernel
theorem dX1_wedSet_25 : decode cX1_wedSet 25 = .ok (.ishl, 1) := by decide +kernel
theorem dX1_wedSet_26 : decode cX1_wedSet 26 = .ok (.ior, 1) := by decide +kernel
theorem dX1_wedSet_27 : decode cX1_wedSet 27 = .ok (.istore_n 1, 1) := by decide +kernel
theorem dX1_wedSet_28 : decode cX1_wedSet 28 = .ok (.iinc 2 1, 3) := by decide +kernel
theorem dX1_wedSet_31 : decode cX1_wedSet 31 = .ok (.goto (-27), 3) := by decide +kernel
theorem dX1_wedSet_34 : decode cX1_wedSet 34 = .ok (.iload_n 1, 1) := by decide +kernel
theorem dX1_wedSet_35 : decode cX1_wedSet 35 = .ok (.ireturn, 1) := by decide +kernel
theorem dX1_allKinOf_0 : decode cX1_allKinOf 0 = .ok (.iconst 1, 1) := by decide +kernel
theorem dX1_allKinOf_1 : decode cX1_allKinOf 1 = .ok (.iload_n 1, 1) := by decide +kernel
theorem dX1_allKinOf_2 : decode cX1_allKinOf 2 = .ok (.ishl, 1) := by decide +kernel
theorem dX1_allKinOf_3 : decode cX1_allKinOf 3 = .ok (.istore_n 2, 1) := by decide +kernel
theorem dX1_allKinOf_4 : decode cX1_allKinOf 4 = .ok (.iconst 0, 1) := by decide +kernel
theorem dX1_allKinOf_5 : decode cX1_allKinOf 5 = .ok (.istore_n 3, 1) := by decide +kernel
theorem dX1_allKinOf_6 : decode cX1_allKinOf 6 = .ok (.iload_n 3, 1) := by decide +kernel
theorem dX1_allKinOf_7 : decode cX1_allKinOf 7 = .ok (.aload_n 0, 1) := by decide +kernel
theorem dX1_allKinOf_8 : decode cX1_allKinOf 8 = .ok (.getfield 30, 3) := by decide +kernel
theorem dX1_allKinOf_11 : decode cX1_allKinOf 11 = .ok (.if_icmp .ge 47, 3) := by decide +kernel
theorem dX1_allKinOf_14 : decode cX1_allKinOf 14 = .ok (.iconst 0, 1) := by decide +kernel
theorem dX1_allKinOf_15 : decode cX1_allKinOf 15 = .ok (.istore 4, 2) := by decide +kernel
theorem dX1_allKinOf_17 : decode cX1_allKinOf 17 = .ok (.iload 4, 2) := by decide +kernel
theorem dX1_allKinOf_19 : decode cX1_allKinOf 19 = .ok (.aload_n 0, 1) := by decide +kernel
theorem dX1_allKinOf_20 : decode cX1_allKinOf 20 = .ok (.getfield 30, 3) := by decide +kernel
theorem dX1_allKinOf_23 : decode cX1_allKinOf 23 = .ok (.if_icmp .ge 29, 3) := by decide +kernel
theorem dX1_allKinOf_26 : decode cX1_allKinOf 26 = .ok (.iload_n 2, 1) := by decide +kernel
theorem dX1_allKinOf_27 : decode cX1_allKinOf 27 = .ok (.iload 4, 2) := by decide +kernel
theorem dX1_allKinOf_29 : decode cX1_allKinOf 29 = .ok (.ishr, 1) := by decide +kernel
theorem dX1_allKinOf_30 : decode cX1_allKinOf 30 = .ok (.iconst 1, 1) := by decide +kernel
theorem dX1_allKinOf_31 : decode cX1_allKinOf 31 = .ok (.iand, 1) := by decide +kernel
theorem dX1_allKinOf_32 : decode cX1_allKinOf 32 = .ok (.iconst 1, 1) := by decide +kernel
theorem dX1_allKinOf_33 : decode cX1_allKinOf 33 = .ok (.if_icmp .ne 13, 3) := by decide +kernel
theorem dX1_allKinOf_36 : decode cX1_allKinOf 36 = .ok (.iload_n 2, 1) := by decide +kernel
theorem dX1_allKinOf_37 : decode cX1_allKinOf 37 = .ok (.aload_n 0, 1) := by decide +kernel
theorem dX1_allKinOf_38 : decode cX1_allKinOf 38 = .ok (.getfield 27, 3) := by decide +kernel
theorem dX1_allKinOf_41 : decode cX1_allKinOf 41 = .ok (.iload 4, 2) := by decide +kernel
theorem dX1_allKinOf_43 : decode cX1_allKinOf 43 = .ok (.iaload, 1) := by decide +kernel
theorem dX1_allKinOf_44 : decode cX1_allKinOf 44 = .ok (.ior, 1) := by decide +kernel
theorem dX1_allKinOf_45 : decode cX1_allKinOf 45 = .ok (.istore_n 2, 1) := by decide +kernel
theorem dX1_allKinOf_46 : decode cX1_allKinOf 46 = .ok (.iinc 4 1, 3) := by decide +kernel
theorem dX1_allKinOf_49 : decode cX1_allKinOf 49 = .ok (.goto (-32), 3) := by decide +kernel
theorem dX1_allKinOf_52 : decode cX1_allKinOf 52 = .ok (.iinc 3 1, 3) := by decide +kernel
theorem dX1_allKinOf_55 : decode cX1_allKinOf 55 = .ok (.goto (-49), 3) := by decide +kernel
theorem dX1_allKinOf_58 : decode cX1_allKinOf 58 = .ok (.iload_n 2, 1) := by decide +kernel
theorem dX1_allKinOf_59 : decode cX1_allKinOf 59 = .ok (.ireturn, 1) := by decide +kernel
theorem dX1_hopeAmong_0 : decode cX1_hopeAmong 0 = .ok (.iload_n 2, 1) := by decide +kernel
theorem dX1_hopeAmong_1 : decode cX1_hopeAmong 1 = .ok (.ifCond .lt 9, 3) := by decide +kernel
theorem dX1_hopeAmong_4 : decode cX1_hopeAmong 4 = .ok (.iload_n 2, 1) := by decide +kernel
theorem dX1_hopeAmong_5 : decode cX1_hopeAmong 5 = .ok (.bipush 12, 2) := by decide +kernel
theorem dX1_hopeAmong_7 : decode cX1_hopeAmong 7 = .ok (.if_icmp .lt 7, 3) := by decide +kernel
theorem dX1_hopeAmong_10 : decode cX1_hopeAmong 10 = .ok (.sipush 4095, 3) := by decide +kernel
theorem dX1_hopeAmong_13 : decode cX1_hopeAmong 13 = .ok (.ireturn, 1) := by decide +kernel
theorem dX1_hopeAmong_14 : decode cX1_hopeAmong 14 = .ok (.iload_n 1, 1) := by decide +kernel
theorem dX1_hopeAmong_15 : decode cX1_hopeAmong 15 = .ok (.iconst 1, 1) := by decide +kernel
theorem dX1_hopeAmong_16 : decode cX1_hopeAmong 16 = .ok (.iload_n 2, 1) := by decide +kernel
theorem dX1_hopeAmong_17 : decode cX1_hopeAmong 17 = .ok (.ishl, 1) := by decide +kernel
theorem dX1_hopeAmong_18 : decode cX1_hopeAmong 18 = .ok (.iconst (-1), 1) := by decide +kernel
theorem dX1_hopeAmong_19 : decode cX1_hopeAmong 19 = .ok (.ixor, 1) := by decide +kernel
theorem dX1_hopeAmong_20 : decode cX1_hopeAmong 20 = .ok (.iand, 1) := by decide +kernel
theorem dX1_hopeAmong_21 : decode cX1_hopeAmong 21 = .ok (.istore_n 3, 1) := by decide +kernel
theorem dX1_hopeAmong_22 : decode cX1_hopeAmong 22 = .ok (.iload_n 3, 1) := by decide +kernel
theorem dX1_hopeAmong_23 : decode cX1_hopeAmong 23 = .ok (.iload_n 1, 1) := by decide +kernel
theorem dX1_hopeAmong_24 : decode cX1_hopeAmong 24 = .ok (.if_icmp .eq 12, 3) := by decide +kernel
theorem dX1_hopeAmong_27 : decode cX1_hopeAmong 27 = .ok (.aload_n 0, 1) := by decide +kernel
theorem dX1_hopeAmong_28 : decode cX1_hopeAmong 28 = .ok (.getfield 18, 3) := by decide +kernel
theorem dX1_hopeAmong_31 : decode cX1_hopeAmong 31 = .ok (.iload_n 2, 1) := by decide +kernel
theorem dX1_hopeAmong_32 : decode cX1_hopeAmong 32 = .ok (.iaload, 1) := by decide +kernel
theorem dX1_hopeAmong_33 : decode cX1_hopeAmong 33 = .ok (.ifCond .ne 12, 3) := by decide +kernel
theorem dX1_hopeAmong_36 : decode cX1_hopeAmong 36 = .ok (.aload_n 0, 1) := by decide +kernel
theorem dX1_hopeAmong_37 : decode cX1_hopeAmong 37 = .ok (.iload_n 3, 1) := by decide +kernel
theorem dX1_hopeAmong_38 : decode cX1_hopeAmong 38 = .ok (.iload_n 2, 1) := by decide +kernel
theorem dX1_hopeAmong_39 : decode cX1_hopeAmong 39 = .ok (.iconst 1, 1) := by decide +kernel
theorem dX1_hopeAmong_40 : decode cX1_hopeAmong 40 = .ok (.isub, 1) := by decide +kernel
theorem dX1_hopeAmong_41 : decode cX1_hopeAmong 41 = .ok (.invokestatic 41, 3) := by decide +kernel
theorem dX1_hopeAmong_44 : decode cX1_hopeAmong 44 = .ok (.ireturn, 1) := by decide +kernel
theorem dX1_hopeAmong_45 : decode cX1_hopeAmong 45 = .ok (.aload_n 0, 1) := by decide +kernel
theorem dX1_hopeAmong_46 : decode cX1_hopeAmong 46 = .ok (.getfield 18, 3) := by decide +kernel
theorem dX1_hopeAmong_49 : decode cX1_hopeAmong 49 = .ok (.iload_n 2, 1) := by decide +kernel
theorem dX1_hopeAmong_50 : decode cX1_hopeAmong 50 = .ok (.iaload, 1) := by decide +kernel
theorem dX1_hopeAmong_51 : decode cX1_hopeAmong 51 = .ok (.bipush 12, 2) := by decide +kernel
theorem dX1_hopeAmong_53 : decode cX1_hopeAmong 53 = .ok (.ishl, 1) := by decide +kernel
theorem dX1_hopeAmong_54 : decode cX1_hopeAmong 54 = .ok (.iconst 1, 1) := by decide +kernel
theorem dX1_hopeAmong_55 : decode cX1_hopeAmong 55 = .ok (.iload_n 2, 1) := by decide +kernel
theorem dX1_hopeAmong_56 : decode cX1_hopeAmong 56 = .ok (.ishl, 1) := by decide +kernel
theorem dX1_hopeAmong_57 : decode cX1_hopeAmong 57 = .ok (.isub, 1) := by decide +kernel
theorem dX1_hopeAmong_58 : decode cX1_hopeAmong 58 = .ok (.aload_n 0, 1) := by decide +kernel
theorem dX1_hopeAmong_59 : decode cX1_hopeAmong 59 = .ok (.iload_n 3, 1) := by decide +kernel
theorem dX1_hopeAmong_60 : decode cX1_hopeAmong 60 = .ok (.aload_n 0, 1) := by decide +kernel
theorem dX1_hopeAmong_61 : decode cX1_hopeAmong 61 = .ok (.getfield 27, 3) := by decide +kernel
theorem dX1_hopeAmong_64 : decode cX1_hopeAmong 64 = .ok (.iload_n 2, 1) := by decide +kernel
theorem dX1_hopeAmong_65 : decode cX1_hopeAmong 65 = .ok (.iaload, 1) := by decide +kernel
theorem dX1_hopeAmong_66 : decode cX1_hopeAmong 66 = .ok (.iconst (-1), 1) := by decide +kernel
theorem dX1_hopeAmong_67 : decode cX1_hopeAmong 67 = .ok (.ixor, 1) := by decide +kernel
theorem dX1_hopeAmong_68 : decode cX1_hopeAmong 68 = .ok (.iand, 1) := by decide +kernel
theorem dX1_hopeAmong_69 : decode cX1_hopeAmong 69 = .ok (.iload_n 2, 1) := by decide +kernel
theorem dX1_hopeAmong_70 : decode cX1_hopeAmong 70 = .ok (.iconst 1, 1) := by decide +kernel
theorem dX1_hopeAmong_71 : decode cX1_hopeAmong 71 = .ok (.isub, 1) := by decide +kernel
theorem dX1_hopeAmong_72 : decode cX1_hopeAmong 72 = .ok (.invokestatic 41, 3) := by decide +kernel
theorem dX1_hopeAmong_75 : decode cX1_hopeAmong 75 = .ok (.iadd, 1) := by decide +kernel
theorem dX1_hopeAmong_76 : decode cX1_hopeAmong 76 = .ok (.istore 4, 2) := by decide +kernel
theorem dX1_hopeAmong_78 : decode cX1_hopeAmong 78 = .ok (.aload_n 0, 1) := by decide +kernel
theorem dX1_hopeAmong_79 : decode cX1_hopeAmong 79 = .ok (.getfield 27, 3) := by decide +kernel
theorem dX1_hopeAmong_82 : decode cX1_hopeAmong 82 = .ok (.iload_n 2, 1) := by decide +kernel
theorem dX1_hopeAmong_83 : decode cX1_hopeAmong 83 = .ok (.iaload, 1) := by decide +kernel
theorem dX1_hopeAmong_84 : decode cX1_hopeAmong 84 = .ok (.iload_n 3, 1) := by decide +kernel
theorem dX1_hopeAmong_85 : decode cX1_hopeAmong 85 = .ok (.iand, 1) := by decide +kernel
theorem dX1_hopeAmong_86 : decode cX1_hopeAmong 86 = .ok (.ifCond .ne 8, 3) := by decide +kernel
theorem dX1_hopeAmong_89 : decode cX1_hopeAmong 89 = .ok (.iload 4, 2) := by decide +kernel
theorem dX1_hopeAmong_91 : decode cX1_hopeAmong 91 = .ok (.goto 16, 3) := by decide +kernel
theorem dX1_hopeAmong_94 : decode cX1_hopeAmong 94 = .ok (.iload 4, 2) := by decide +kernel
theorem dX1_hopeAmong_96 : decode cX1_hopeAmong 96 = .ok (.aload_n 0, 1) := by decide +kernel
theorem dX1_hopeAmong_97 : decode cX1_hopeAmong 97 = .ok (.iload_n 3, 1) := by decide +kernel
theorem dX1_hopeAmong_98 : decode cX1_hopeAmong 98 = .ok (.iload_n 2, 1) := by decide +kernel
theorem dX1_hopeAmong_99 : decode cX1_hopeAmong 99 = .ok (.iconst 1, 1) := by decide +kernel
theorem dX1_hopeAmong_100 : decode cX1_hopeAmong 100 = .ok (.isub, 1) := by decide +kernel
theorem dX1_hopeAmong_101 : decode cX1_hopeAmong 101 = .ok (.invokestatic 41, 3) := by decide +kernel
theorem dX1_hopeAmong_104 : decode cX1_hopeAmong 104 = .ok (.invokestatic 45, 3) := by decide +kernel
theorem dX1_hopeAmong_107 : decode cX1_hopeAmong 107 = .ok (.ireturn, 1) := by decide +kernel
theorem dX1_copy_0 : decode cX1_copy 0 = .ok (.aload_n 0, 1) := by decide +kernel
theorem dX1_copy_1 : decode cX1_copy 1 = .ok (.aload_n 1, 1) := by decide +kernel
theorem dX1_copy_2 : decode cX1_copy 2 = .ok (.getfield 30, 3) := by decide +kernel
theorem dX1_copy_5 : decode cX1_copy 5 = .ok (.putfield 30, 3) := by decide +kernel
theorem dX1_copy_8 : decode cX1_copy 8 = .ok (.aload_n 1, 1) := by decide +kernel
theorem dX1_copy_9 : decode cX1_copy 9 = .ok (.getfield 9, 3) := by decide +kernel
theorem dX1_copy_12 : decode cX1_copy 12 = .ok (.iconst 0, 1) := by decide +kernel
theorem dX1_copy_13 : decode cX1_copy 13 = .ok (.aload_n 0, 1) := by decide +kernel
theorem dX1_copy_14 : decode cX1_copy 14 = .ok (.getfield 9, 3) := by decide +kernel
theorem dX1_copy_17 : decode cX1_copy 17 = .ok (.iconst 0, 1) := by decide +kernel
theorem dX1_copy_18 : decode cX1_copy 18 = .ok (.bipush 12, 2) := by decide +kernel
theorem dX1_copy_20 : decode cX1_copy 20 = .ok (.invokestatic 51, 3) := by decide +kernel
theorem dX1_copy_23 : decode cX1_copy 23 = .ok (.aload_n 1, 1) := by decide +kernel
theorem dX1_copy_24 : decode cX1_copy 24 = .ok (.getfield 15, 3) := by decide +kernel
theorem dX1_copy_27 : decode cX1_copy 27 = .ok (.iconst 0, 1) := by decide +kernel
theorem dX1_copy_28 : decode cX1_copy 28 = .ok (.aload_n 0, 1) := by decide +kernel
theorem dX1_copy_29 : decode cX1_copy 29 = .ok (.getfield 15, 3) := by decide +kernel
theorem dX1_copy_32 : decode cX1_copy 32 = .ok (.iconst 0, 1) := by decide +kernel
theorem dX1_copy_33 : decode cX1_copy 33 = .ok (.bipush 12, 2) := by decide +kernel
theorem dX1_copy_35 : decode cX1_copy 35 = .ok (.invokestatic 51, 3) := by decide +kernel
theorem dX1_copy_38 : decode cX1_copy 38 = .ok (.aload_n 1, 1) := by decide +kernel
theorem dX1_copy_39 : decode cX1_copy 39 = .ok (.getfield 18, 3) := by decide +kernel
theorem dX1_copy_42 : decode cX1_copy 42 = .ok (.iconst 0, 1) := by decide +kernel
theorem dX1_copy_43 : decode cX1_copy 43 = .ok (.aload_n 0, 1) := by decide +kernel
theorem dX1_copy_44 : decode cX1_copy 44 = .ok (.getfield 18, 3) := by decide +kernel
theorem dX1_copy_47 : decode cX1_copy 47 = .ok (.iconst 0, 1) := by decide +kernel
theorem dX1_copy_48 : decode cX1_copy 48 = .ok (.bipush 12, 2) := by decide +kernel
theorem dX1_copy_50 : decode cX1_copy 50 = .ok (.invokestatic 51, 3) := by decide +kernel
theorem dX1_copy_53 : decode cX1_copy 53 = .ok (.aload_n 1, 1) := by decide +kernel
theorem dX1_copy_54 : decode cX1_copy 54 = .ok (.getfield 21, 3) := by decide +kernel
theorem dX1_copy_57 : decode cX1_copy 57 = .ok (.iconst 0, 1) := by decide +kernel
theorem dX1_copy_58 : decode cX1_copy 58 = .ok (.aload_n 0, 1) := by decide +kernel
theorem dX1_copy_59 : decode cX1_copy 59 = .ok (.getfield 21, 3) := by decide +kernel
theorem dX1_copy_62 : decode cX1_copy 62 = .ok (.iconst 0, 1) := by decide +kernel
theorem dX1_copy_63 : decode cX1_copy 63 = .ok (.bipush 12, 2) := by decide +kernel
theorem dX1_copy_65 : decode cX1_copy 65 = .ok (.invokestatic 51, 3) := by decide +kernel
theorem dX1_copy_68 : decode cX1_copy 68 = .ok (.aload_n 1, 1) := by decide +kernel
theorem dX1_copy_69 : decode cX1_copy 69 = .ok (.getfield 24, 3) := by decide +kernel
theorem dX1_copy_72 : decode cX1_copy 72 = .ok (.iconst 0, 1) := by decide +kernel
theorem dX1_copy_73 : decode cX1_copy 73 = .ok (.aload_n 0, 1) := by decide +kernel
theorem dX1_copy_74 : decode cX1_copy 74 = .ok (.getfield 24, 3) := by decide +kernel
theorem dX1_copy_77 : decode cX1_copy 77 = .ok (.iconst 0, 1) := by decide +kernel
theorem dX1_copy_78 : decode cX1_copy 78 = .ok (.bipush 12, 2) := by decide +kernel
theorem dX1_copy_80 : decode cX1_copy 80 = .ok (.invokestatic 51, 3) := by decide +kernel
theorem dX1_copy_83 : decode cX1_copy 83 = .ok (.aload_n 1, 1) := by decide +kernel
theorem dX1_copy_84 : decode cX1_copy 84 = .ok (.getfield 27, 3) := by decide +kernel
theorem dX1_copy_87 : decode cX1_copy 87 = .ok (.iconst 0, 1) := by decide +kernel
theorem dX1_copy_88 : decode cX1_copy 88 = .ok (.aload_n 0, 1) := by decide +kernel
theorem dX1_copy_89 : decode cX1_copy 89 = .ok (.getfield 27, 3) := by decide +kernel
theorem dX1_copy_92 : decode cX1_copy 92 = .ok (.iconst 0, 1) := by decide +kernel
theorem dX1_copy_93 : decode cX1_copy 93 = .ok (.bipush 12, 2) := by decide +kernel
theorem dX1_copy_95 : decode cX1_copy 95 = .ok (.invokestatic 51, 3) := by decide +kernel
theorem dX1_copy_98 : decode cX1_copy 98 = .ok (.return_, 1) := by decide +kernel
theorem dX2_init_0 : decode cX2_init 0 = .ok (.aload_n 0, 1) := by decide +kernel
theorem dX2_init_1 : decode cX2_init 1 = .ok (.invokespecial 5, 3) := by decide +kernel
theorem dX2_init_4 : decode cX2_init 4 = .ok (.aload_n 0, 1) := by decide +kernel
theorem dX2_init_5 : decode cX2_init 5 = .ok (.sipush 400, 3) := by decide +kernel
theorem dX2_init_8 : decode cX2_init 8 = .ok (.newarray .int, 2) := by decide +kernel
theorem dX2_init_10 : decode cX2_init 10 = .ok (.putfield 11, 3) := by decide +kernel
theorem dX2_init_13 : decode cX2_init 13 = .ok (.aload_n 0, 1) := by decide +kernel
theorem dX2_init_14 : decode cX2_init 14 = .ok (.bipush 16, 2) := by decide +kernel
theorem dX2_init_16 : decode cX2_init 16 = .ok (.newarray .int, 2) := by decide +kernel
theorem dX2_init_18 : decode cX2_init 18 = .ok (.putfield 15, 3) := by decide +kernel
theorem dX2_init_21 : decode cX2_init 21 = .ok (.aload_n 0, 1) := by decide +kernel
theorem dX2_init_22 : decode cX2_init 22 = .ok (.bipush 17, 2) := by decide +kernel
theorem dX2_init_24 : decode cX2_init 24 = .ok (.newarray .int, 2) := by decide +kernel
theorem dX2_init_26 : decode cX2_init 26 = .ok (.putfield 18, 3) := by decide +kernel
theorem dX2_init_29 : decode cX2_init 29 = .ok (.aload_n 0, 1) := by decide +kernel
theorem dX2_init_30 : decode cX2_init 30 = .ok (.bipush 16, 2) := by decide +kernel
theorem dX2_init_32 : decode cX2_init 32 = .ok (.newarray .int, 2) := by decide +kernel
theorem dX2_init_34 : decode cX2_init 34 = .ok (.putfield 21, 3) := by decide +kernel
theorem dX2_init_37 : decode cX2_init 37 = .ok (.aload_n 0, 1) := by decide +kernel
theorem dX2_init_38 : decode cX2_init 38 = .ok (.bipush 10, 2) := by decide +kernel
theorem dX2_init_40 : decode cX2_init 40 = .ok (.newarray .int, 2) := by decide +kernel
theorem dX2_init_42 : decode cX2_init 42 = .ok (.putfield 24, 3) := by decide +kernel
theorem dX2_init_45 : decode cX2_init 45 = .ok (.aload_n 0, 1) := by decide +kernel
theorem dX2_init_46 : decode cX2_init 46 = .ok (.bipush 48, 2) := by decide +kernel
theorem dX2_init_48 : decode cX2_init 48 = .ok (.newarray .int, 2) := by decide +kernel
theorem dX2_init_50 : decode cX2_init 50 = .ok (.putfield 27, 3) := by decide +kernel
theorem dX2_init_53 : decode cX2_init 53 = .ok (.return_, 1) := by decide +kernel
theorem dX2_clear_0 : decode cX2_clear 0 = .ok (.aload_n 0, 1) := by decide +kernel
theorem dX2_clear_1 : decode cX2_clear 1 = .ok (.iconst 0, 1) := by decide +kernel
theorem dX2_clear_2 : decode cX2_clear 2 = .ok (.putfield 30, 3) := by decide +kernel
theorem dX2_clear_5 : decode cX2_clear 5 = .ok (.aload_n 0, 1) := by decide +kernel
theorem dX2_clear_6 : decode cX2_clear 6 = .ok (.iconst 0, 1) := by decide +kernel
theorem dX2_clear_7 : decode cX2_clear 7 = .ok (.putfield 34, 3) := by decide +kernel
theorem dX2_clear_10 : decode cX2_clear 10 = .ok (.aload_n 0, 1) := by decide +kernel
theorem dX2_clear_11 : decode cX2_clear 11 = .ok (.getfield 18, 3) := by decide +kernel
theorem dX2_clear_14 : decode cX2_clear 14 = .ok (.iconst 0, 1) := by decide +kernel
theorem dX2_clear_15 : decode cX2_clear 15 = .ok (.iconst 0, 1) := by decide +kernel
theorem dX2_clear_16 : decode cX2_clear 16 = .ok (.iastore, 1) := by decide +kernel
theorem dX2_clear_17 : decode cX2_clear 17 = .ok (.return_, 1) := by decide +kernel
theorem dX2_codeOfName_0 : decode cX2_codeOfName 0 = .ok (.iconst (-1), 1) := by decide +kernel
theorem dX2_codeOfName_1 : decode cX2_codeOfName 1 = .ok (.iload_n 0, 1) := by decide +kernel
theorem dX2_codeOfName_2 : decode cX2_codeOfName 2 = .ok (.bipush 10, 2) := by decide +kernel
theorem dX2_codeOfName_4 : decode cX2_codeOfName 4 = .ok (.isub, 1) := by decide +kernel
theorem dX2_codeOfName_5 : decode cX2_codeOfName 5 = .ok (.isub, 1) := by decide +kernel
theorem dX2_codeOfName_6 : decode cX2_codeOfName 6 = .ok (.ireturn, 1) := by decide +kernel
theorem dX2_codeOfJoint_0 : decode cX2_codeOfJoint 0 = .ok (.bipush (-11), 2) := by decide +kernel
theorem dX2_codeOfJoint_2 : decode cX2_codeOfJoint 2 = .ok (.iload_n 0, 1) := by decide +kernel
theorem dX2_codeOfJoint_3 : decode cX2_codeOfJoint 3 = .ok (.isub, 1) := by decide +kernel
theorem dX2_codeOfJoint_4 : decode cX2_codeOfJoint 4 = .ok (.ireturn, 1) := by decide +kernel
theorem dX2_put_0 : decode cX2_put 0 = .ok (.aload_n 0, 1) := by decide +kernel
theorem dX2_put_1 : decode cX2_put 1 = .ok (.getfield 34, 3) := by decide +kernel
theorem dX2_put_4 : decode cX2_put 4 = .ok (.sipush 400, 3) := by decide +kernel
theorem dX2_put_7 : decode cX2_put 7 = .ok (.if_icmp .ge 23, 3) := by decide +kernel
theorem dX2_put_10 : decode cX2_put 10 = .ok (.aload_n 0, 1) := by decide +kernel
theorem dX2_put_11 : decode cX2_put 11 = .ok (.getfield 11, 3) := by decide +kernel
theorem dX2_put_14 : decode cX2_put 14 = .ok (.aload_n 0, 1) := by decide +kernel
theorem dX2_put_15 : decode cX2_put 15 = .ok (.getfield 34, 3) := by decide +kernel
theorem dX2_put_18 : decode cX2_put 18 = .ok (.iload_n 1, 1) := by decide +kernel
theorem dX2_put_19 : decode cX2_put 19 = .ok (.iastore, 1) := by decide +kernel
theorem dX2_put_20 : decode cX2_put 20 = .ok (.aload_n 0, 1) := by decide +kernel
theorem dX2_put_21 : decode cX2_put 21 = .ok (.dup, 1) := by decide +kernel
theorem dX2_put_22 : decode cX2_put 22 = .ok (.getfield 34, 3) := by decide +kernel
theorem dX2_put_25 : decode cX2_put 25 = .ok (.iconst 1, 1) := by decide +kernel
theorem dX2_put_26 : decode cX2_put 26 = .ok (.iadd, 1) := by decide +kernel
theorem dX2_put_27 : decode cX2_put 27 = .ok (.putfield 34, 3) := by decide +kernel
theorem dX2_put_30 : decode cX2_put 30 = .ok (.return_, 1) := by decide +kernel
theorem dX2_forgetNames_0 : decode cX2_forgetNames 0 = .ok (.iconst 0, 1) := by decide +kernel
theorem dX2_forgetNames_1 : decode cX2_forgetNames 1 = .ok (.istore_n 1, 1) := by decide +kernel
theorem dX2_forgetNames_2 : decode cX2_forgetNames 2 = .ok (.iload_n 1, 1) := by decide +kernel
theorem dX2_forgetNames_3 : decode cX2_forgetNames 3 = .ok (.bipush 10, 2) := by decide +kernel
theorem dX2_forgetNames_5 : decode cX2_forgetNames 5 = .ok (.if_icmp .ge 16, 3) := by decide +kernel
theorem dX2_forgetNames_8 : decode cX2_forgetNames 8 = .ok (.aload_n 0, 1) := by decide +kernel
theorem dX2_forgetNames_9 : decode cX2_forgetNames 9 = .ok (.getfield 24, 3) := by decide +kernel
theorem dX2_forgetNames_12 : decode cX2_forgetNames 12 = .ok (.iload_n 1, 1) := by decide +kernel
theorem dX2_forgetNames_13 : decode cX2_forgetNames 13 = .ok (.iconst 0, 1) := by decide +kernel
theorem dX2_forgetNames_14 : decode cX2_forgetNames 14 = .ok (.iastore, 1) := by decide +kernel
theorem dX2_forgetNames_15 : decode cX2_forgetNames 15 = .ok (.iinc 1 1, 3) := by decide +kernel
theorem dX2_forgetNames_18 : decode cX2_forgetNames 18 = .ok (.goto (-16), 3) := by decide +kernel
theorem dX2_forgetNames_21 : decode cX2_forgetNames 21 = .ok (.return_, 1) := by decide +kernel
theorem dX2_name_0 : decode cX2_name 0 = .ok (.iload_n 1, 1) := by decide +kernel
theorem dX2_name_1 : decode cX2_name 1 = .ok (.bipush 10, 2) := by decide +kernel
theorem dX2_name_3 : decode cX2_name 3 = .ok (.isub, 1) := by decide +kernel
theorem dX2_name_4 : decode cX2_name 4 = .ok (.istore_n 3, 1) := by decide +kernel
theorem dX2_name_5 : decode cX2_name 5 = .ok (.iload_n 3, 1) := by decide +kernel
theorem dX2_name_6 : decode cX2_name 6 = .ok (.ifCond .lt 16, 3) := by decide +kernel
theorem dX2_name_9 : decode cX2_name 9 = .ok (.iload_n 3, 1) := by decide +kernel
theorem dX2_name_10 : decode cX2_name 10 = .ok (.bipush 10, 2) := by decide +kernel
theorem dX2_name_12 : decode cX2_name 12 = .ok (.if_icmp .ge 10, 3) := by decide +kernel
theorem dX2_name_15 : decode cX2_name 15 = .ok (.aload_n 0, 1) := by decide +kernel
theorem dX2_name_16 : decode cX2_name 16 = .ok (.getfield 24, 3) := by decide +kernel
theorem dX2_name_19 : decode cX2_name 19 = .ok (.iload_n 3, 1) := by decide +kernel
theorem dX2_name_20 : decode cX2_name 20 = .ok (.iload_n 2, 1) := by decide +kernel
theorem dX2_name_21 : decode cX2_name 21 = .ok (.iastore, 1) := by decide +kernel
theorem dX2_name_22 : decode cX2_name 22 = .ok (.return_, 1) := by decide +kernel
theorem dX2_tell_0 : decode cX2_tell 0 = .ok (.iconst 0, 1) := by decide +kernel
theorem dX2_tell_1 : decode cX2_tell 1 = .ok (.istore_n 3, 1) := by decide +kernel
theorem dX2_tell_2 : decode cX2_tell 2 = .ok (.iload_n 3, 1) := by decide +kernel
theorem dX2_tell_3 : decode cX2_tell 3 = .ok (.aload_n 0, 1) := by decide +kernel
theorem dX2_tell_4 : decode cX2_tell 4 = .ok (.getfield 30, 3) := by decide +kernel
theorem dX2_tell_7 : decode cX2_tell 7 = .ok (.if_icmp .ge 80, 3) := by decide +kernel
theorem dX2_tell_10 : decode cX2_tell 10 = .ok (.iload_n 3, 1) := by decide +kernel
theorem dX2_tell_11 : decode cX2_tell 11 = .ok (.bipush 16, 2) := by decide +kernel
theorem dX2_tell_13 : decode cX2_tell 13 = .ok (.if_icmp .ge 74, 3) := by decide +kernel
theorem dX2_tell_16 : decode cX2_tell 16 = .ok (.aload_n 0, 1) := by decide +kernel
theorem dX2_tell_17 : decode cX2_tell 17 = .ok (.getfield 15, 3) := by decide +kernel
theorem dX2_tell_20 : decode cX2_tell 20 = .ok (.iload_n 3, 1) := by decide +kernel
theorem dX2_tell_21 : decode cX2_tell 21 = .ok (.iaload, 1) := by decide +kernel
theorem dX2_tell_22 : decode cX2_tell 22 = .ok (.iload_n 1, 1) := by decide +kernel
theorem dX2_tell_23 : decode cX2_tell 23 = .ok (.if_icmp .ne 58, 3) := by decide +kernel
theorem dX2_tell_26 : decode cX2_tell 26 = .ok (.aload_n 0, 1) := by decide +kernel
theorem dX2_tell_27 : decode cX2_tell 27 = .ok (.getfield 21, 3) := by decide +kernel
theorem dX2_tell_30 : decode cX2_tell 30 = .ok (.iload_n 3, 1) := by decide +kernel
theorem dX2_tell_31 : decode cX2_tell 31 = .ok (.iaload, 1) := by decide +kernel
theorem dX2_tell_32 : decode cX2_tell 32 = .ok (.aload_n 0, 1) := by decide +kernel
theorem dX2_tell_33 : decode cX2_tell 33 = .ok (.getfield 18, 3) := by decide +kernel
theorem dX2_tell_36 : decode cX2_tell 36 = .ok (.iload_n 3, 1) := by decide +kernel
theorem dX2_tell_37 : decode cX2_tell 37 = .ok (.iconst 1, 1) := by decide +kernel
theorem dX2_tell_38 : decode cX2_tell 38 = .ok (.iadd, 1) := by decide +kernel
theorem dX2_tell_39 : decode cX2_tell 39 = .ok (.iaload, 1) := by decide +kernel
theorem dX2_tell_40 : decode cX2_tell 40 = .ok (.if_icmp .eq 24, 3) := by decide +kernel
theorem dX2_tell_43 : decode cX2_tell 43 = .ok (.aload_n 0, 1) := by decide +kernel
theorem dX2_tell_44 : decode cX2_tell 44 = .ok (.aload_n 0, 1) := by decide +kernel
theorem dX2_tell_45 : decode cX2_tell 45 = .ok (.getfield 21, 3) := by decide +kernel
theorem dX2_tell_48 : decode cX2_tell 48 = .ok (.iload_n 3, 1) := by decide +kernel
theorem dX2_tell_49 : decode cX2_tell 49 = .ok (.iaload, 1) := by decide +kernel
theorem dX2_tell_50 : decode cX2_tell 50 = .ok (.aload_n 0, 1) := by decide +kernel
theorem dX2_tell_51 : decode cX2_tell 51 = .ok (.getfield 18, 3) := by decide +kernel
theorem dX2_tell_54 : decode cX2_tell 54 = .ok (.iload_n 3, 1) := by decide +kernel
theorem dX2_tell_55 : decode cX2_tell 55 = .ok (.iconst 1, 1) := by decide +kernel
theorem dX2_tell_56 : decode cX2_tell 56 = .ok (.iadd, 1) := by decide +kernel
theorem dX2_tell_57 : decode cX2_tell 57 = .ok (.iaload, 1) := by decide +kernel
theorem dX2_tell_58 : decode cX2_tell 58 = .ok (.invokevirtual 37, 3) := by decide +kernel
theorem dX2_tell_61 : decode cX2_tell 61 = .ok (.ifCond .eq 20, 3) := by decide +kernel
theorem dX2_tell_64 : decode cX2_tell 64 = .ok (.aload_n 0, 1) := by decide +kernel
theorem dX2_tell_65 : decode cX2_tell 65 = .ok (.aload_n 0, 1) := by decide +kernel
theorem dX2_tell_66 : decode cX2_tell 66 = .ok (.getfield 18, 3) := by decide +kernel
theorem dX2_tell_69 : decode cX2_tell 69 = .ok (.iload_n 3, 1) := by decide +kernel
theorem dX2_tell_70 : decode cX2_tell 70 = .ok (.iaload, 1) := by decide +kernel
theorem dX2_tell_71 : decode cX2_tell 71 = .ok (.aload_n 0, 1) := by decide +kernel
theorem dX2_tell_72 : decode cX2_tell 72 = .ok (.getfield 21, 3) := by decide +kernel
theorem dX2_tell_75 : decode cX2_tell 75 = .ok (.iload_n 3, 1) := by decide +kernel
theorem dX2_tell_76 : decode cX2_tell 76 = .ok (.iaload, 1) := by decide +kernel
theorem dX2_tell_77 : decode cX2_tell 77 = .ok (.invokevirtual 37, 3) := by decide +kernel
theorem dX2_tell_80 : decode cX2_tell 80 = .ok (.ireturn, 1) := by decide +kernel
theorem dX2_tell_81 : decode cX2_tell 81 = .ok (.iinc 3 1, 3) := by decide +kernel
theorem dX2_tell_84 : decode cX2_tell 84 = .ok (.goto (-82), 3) := by decide +kernel
theorem dX2_tell_87 : decode cX2_tell 87 = .ok (.iload_n 2, 1) := by decide +kernel
theorem dX2_tell_88 : decode cX2_tell 88 = .ok (.ireturn, 1) := by decide +kernel
theorem dX2_run_0 : decode cX2_run 0 = .ok (.iconst 0, 1) := by decide +kernel
theorem dX2_run_1 : decode cX2_run 1 = .ok (.istore_n 3, 1) := by decide +kernel
theorem dX2_run_2 : decode cX2_run 2 = .ok (.iconst 0, 1) := by decide +kernel
theorem dX2_run_3 : decode cX2_run 3 = .ok (.iload_n 1, 1) := by decide +kernel
theorem dX2_run_4 : decode cX2_run 4 = .ok (.invokestatic 41, 3) := by decide +kernel
theorem dX2_run_7 : decode cX2_run 7 = .ok (.istore 4, 2) := by decide +kernel
theorem dX2_run_9 : decode cX2_run 9 = .ok (.iload 4, 2) := by decide +kernel
theorem dX2_run_11 : decode cX2_run 11 = .ok (.iload_n 2, 1) := by decide +kernel
theorem dX2_run_12 : decode cX2_run 12 = .ok (.if_icmp .ge 140, 3) := by decide +kernel
theorem dX2_run_15 : decode cX2_run 15 = .ok (.iload 4, 2) := by decide +kernel
theorem dX2_run_17 : decode cX2_run 17 = .ok (.sipush 400, 3) := by decide +kernel
theorem dX2_run_20 : decode cX2_run 20 = .ok (.if_icmp .ge 132, 3) := by decide +kernel
theorem dX2_run_23 : decode cX2_run 23 = .ok (.aload_n 0, 1) := by decide +kernel
theorem dX2_run_24 : decode cX2_run 24 = .ok (.getfield 11, 3) := by decide +kernel
theorem dX2_run_27 : decode cX2_run 27 = .ok (.iload 4, 2) := by decide +kernel
theorem dX2_run_29 : decode cX2_run 29 = .ok (.iaload, 1) := by decide +kernel
theorem dX2_run_30 : decode cX2_run 30 = .ok (.istore 5, 2) := by decide +kernel
theorem dX2_run_32 : decode cX2_run 32 = .ok (.iload 5, 2) := by decide +kernel
theorem dX2_run_34 : decode cX2_run 34 = .ok (.bipush (-11), 2) := by decide +kernel
theorem dX2_run_36 : decode cX2_run 36 = .ok (.if_icmp .le 40, 3) := by decide +kernel
theorem dX2_run_39 : decode cX2_run 39 = .ok (.iload_n 3, 1) := by decide +kernel
theorem dX2_run_40 : decode cX2_run 40 = .ok (.bipush 48, 2) := by decide +kernel
theorem dX2_run_42 : decode cX2_run 42 = .ok (.if_icmp .ge 104, 3) := by decide +kernel
theorem dX2_run_45 : decode cX2_run 45 = .ok (.aload_n 0, 1) := by decide +kernel
theorem dX2_run_46 : decode cX2_run 46 = .ok (.getfield 27, 3) := by decide +kernel
theorem dX2_run_49 : decode cX2_run 49 = .ok (.iload_n 3, 1) := by decide +kernel
theorem dX2_run_50 : decode cX2_run 50 = .ok (.iload 5, 2) := by decide +kernel
theorem dX2_run_52 : decode cX2_run 52 = .ok (.ifCond .lt 8, 3) := by decide +kernel
theorem dX2_run_55 : decode cX2_run 55 = .ok (.iload 5, 2) := by decide +kernel
theorem dX2_run_57 : decode cX2_run 57 = .ok (.goto 12, 3) := by decide +kernel
theorem dX2_run_60 : decode cX2_run 60 = .ok (.aload_n 0, 1) := by decide +kernel
theorem dX2_run_61 : decode cX2_run 61 = .ok (.getfield 24, 3) := by decide +kernel
theorem dX2_run_64 : decode cX2_run 64 = .ok (.iconst (-1), 1) := by decide +kernel
theorem dX2_run_65 : decode cX2_run 65 = .ok (.iload 5, 2) := by decide +kernel
theorem dX2_run_67 : decode cX2_run 67 = .ok (.isub, 1) := by decide +kernel
theorem dX2_run_68 : decode cX2_run 68 = .ok (.iaload, 1) := by decide +kernel
theorem dX2_run_69 : decode cX2_run 69 = .ok (.iastore, 1) := by decide +kernel
theorem dX2_run_70 : decode cX2_run 70 = .ok (.iinc 3 1, 3) := by decide +kernel
theorem dX2_run_73 : decode cX2_run 73 = .ok (.goto 73, 3) := by decide +kernel
theorem dX2_run_76 : decode cX2_run 76 = .ok (.iload 5, 2) := by decide +kernel
theorem dX2_run_78 : decode cX2_run 78 = .ok (.bipush (-20), 2) := by decide +kernel
theorem dX2_run_80 : decode cX2_run 80 = .ok (.if_icmp .ne 28, 3) := by decide +kernel
theorem dX2_run_83 : decode cX2_run 83 = .ok (.iload_n 3, 1) := by decide +kernel
theorem dX2_run_84 : decode cX2_run 84 = .ok (.ifCond .le 62, 3) := by decide +kernel
theorem dX2_run_87 : decode cX2_run 87 = .ok (.aload_n 0, 1) := by decide +kernel
theorem dX2_run_88 : decode cX2_run 88 = .ok (.getfield 27, 3) := by decide +kernel
theorem dX2_run_91 : decode cX2_run 91 = .ok (.iload_n 3, 1) := by decide +kernel
theorem dX2_run_92 : decode cX2_run 92 = .ok (.iconst 1, 1) := by decide +kernel
theorem dX2_run_93 : decode cX2_run 93 = .ok (.isub, 1) := by decide +kernel
theorem dX2_run_94 : decode cX2_run 94 = .ok (.iconst 1, 1) := by decide +kernel
theorem dX2_run_95 : decode cX2_run 95 = .ok (.aload_n 0, 1) := by decide +kernel
theorem dX2_run_96 : decode cX2_run 96 = .ok (.getfield 27, 3) := by decide +kernel
theorem dX2_run_99 : decode cX2_run 99 = .ok (.iload_n 3, 1) := by decide +kernel
theorem dX2_run_100 : decode cX2_run 100 = .ok (.iconst 1, 1) := by decide +kernel
theorem dX2_run_101 : decode cX2_run 101 = .ok (.isub, 1) := by decide +kernel
theorem dX2_run_102 : decode cX2_run 102 = .ok (.iaload, 1) := by decide +kernel
theorem dX2_run_103 : decode cX2_run 103 = .ok (.isub, 1) := by decide +kernel
theorem dX2_run_104 : decode cX2_run 104 = .ok (.iastore, 1) := by decide +kernel
theorem dX2_run_105 : decode cX2_run 105 = .ok (.goto 41, 3) := by decide +kernel
theorem dX2_run_108 : decode cX2_run 108 = .ok (.iload_n 3, 1) := by decide +kernel
theorem dX2_run_109 : decode cX2_run 109 = .ok (.iconst 1, 1) := by decide +kernel
theorem dX2_run_110 : decode cX2_run 110 = .ok (.if_icmp .le 36, 3) := by decide +kernel
theorem dX2_run_113 : decode cX2_run 113 = .ok (.iinc 3 (-1), 3) := by decide +kernel
theorem dX2_run_116 : decode cX2_run 116 = .ok (.aload_n 0, 1) := by decide +kernel
theorem dX2_run_117 : decode cX2_run 117 = .ok (.getfield 27, 3) := by decide +kernel
theorem dX2_run_120 : decode cX2_run 120 = .ok (.iload_n 3, 1) := by decide +kernel
theorem dX2_run_121 : decode cX2_run 121 = .ok (.iconst 1, 1) := by decide +kernel
theorem dX2_run_122 : decode cX2_run 122 = .ok (.isub, 1) := by decide +kernel
theorem dX2_run_123 : decode cX2_run 123 = .ok (.bipush (-11), 2) := by decide +kernel
theorem dX2_run_125 : decode cX2_run 125 = .ok (.iload 5, 2) := by decide +kernel
theorem dX2_run_127 : decode cX2_run 127 = .ok (.isub, 1) := by decide +kernel
theorem dX2_run_128 : decode cX2_run 128 = .ok (.aload_n 0, 1) := by decide +kernel
theorem dX2_run_129 : decode cX2_run 129 = .ok (.getfield 27, 3) := by decide +kernel
theorem dX2_run_132 : decode cX2_run 132 = .ok (.iload_n 3, 1) := by decide +kernel
theorem dX2_run_133 : decode cX2_run 133 = .ok (.iconst 1, 1) := by decide +kernel
theorem dX2_run_134 : decode cX2_run 134 = .ok (.isub, 1) := by decide +kernel
theorem dX2_run_135 : decode cX2_run 135 = .ok (.iaload, 1) := by decide +kernel
theorem dX2_run_136 : decode cX2_run 136 = .ok (.aload_n 0, 1) := by decide +kernel
theorem dX2_run_137 : decode cX2_run 137 = .ok (.getfield 27, 3) := by decide +kernel
theorem dX2_run_140 : decode cX2_run 140 = .ok (.iload_n 3, 1) := by decide +kernel
theorem dX2_run_141 : decode cX2_run 141 = .ok (.iaload, 1) := by decide +kernel
theorem dX2_run_142 : decode cX2_run 142 = .ok (.invokestatic 46, 3) := by decide +kernel
theorem dX2_run_145 : decode cX2_run 145 = .ok (.iastore, 1) := by decide +kernel
theorem dX2_run_146 : decode cX2_run 146 = .ok (.iinc 4 1, 3) := by decide +kernel
theorem dX2_run_149 : decode cX2_run 149 = .ok (.goto (-140), 3) := by decide +kernel
theorem dX2_run_152 : decode cX2_run 152 = .ok (.iload_n 3, 1) := by decide +kernel
theorem dX2_run_153 : decode cX2_run 153 = .ok (.ifCond .le 14, 3) := by decide +kernel
theorem dX2_run_156 : decode cX2_run 156 = .ok (.aload_n 0, 1) := by decide +kernel
theorem dX2_run_157 : decode cX2_run 157 = .ok (.getfield 27, 3) := by decide +kernel
theorem dX2_run_160 : decode cX2_run 160 = .ok (.iload_n 3, 1) := by decide +kernel
theorem dX2_run_161 : decode cX2_run 161 = .ok (.iconst 1, 1) := by decide +kernel
theorem dX2_run_162 : decode cX2_run 162 = .ok (.isub, 1) := by decide +kernel
theorem dX2_run_163 : decode cX2_run 163 = .ok (.iaload, 1) := by decide +kernel
theorem dX2_run_164 : decode cX2_run 164 = .ok (.goto 4, 3) := by decide +kernel
theorem dX2_run_167 : decode cX2_run 167 = .ok (.iconst 0, 1) := by decide +kernel
theorem dX2_run_168 : decode cX2_run 168 = .ok (.ireturn, 1) := by decide +kernel
theorem dX2_joined_0 : decode cX2_joined 0 = .ok (.iload_n 0, 1) := by decide +kernel
theorem dX2_joined_1 : decode cX2_joined 1 = .ok (.lookupswitch 136 #[(8, 132), (42, 83), (43, 75), (45, 79), (47, 87), (60, 99), (61, 110), (62, 121)], 75) := by decide +kernel
theorem dX2_joined_76 : decode cX2_joined 76 = .ok (.iload_n 1, 1) := by decide +kernel
theorem dX2_joined_77 : decode cX2_joined 77 = .ok (.iload_n 2, 1) := by decide +kernel
theorem dX2_joined_78 : decode cX2_joined 78 = .ok (.iadd, 1) := by decide +kernel
theorem dX2_joined_79 : decode cX2_joined 79 = .ok (.ireturn, 1) := by decide +kernel
theorem dX2_joined_80 : decode cX2_joined 80 = .ok (.iload_n 1, 1) := by decide +kernel
theorem dX2_joined_81 : decode cX2_joined 81 = .ok (.iload_n 2, 1) := by decide +kernel
theorem dX2_joined_82 : decode cX2_joined 82 = .ok (.isub, 1) := by decide +kernel
theorem dX2_joined_83 : decode cX2_joined 83 = .ok (.ireturn, 1) := by decide +kernel
theorem dX2_joined_84 : decode cX2_joined 84 = .ok (.iload_n 1, 1) := by decide +kernel
theorem dX2_joined_85 : decode cX2_joined 85 = .ok (.iload_n 2, 1) := by decide +kernel
theorem dX2_joined_86 : decode cX2_joined 86 = .ok (.imul, 1) := by decide +kernel
theorem dX2_joined_87 : decode cX2_joined 87 = .ok (.ireturn, 1) := by decide +kernel
theorem dX2_joined_88 : decode cX2_joined 88 = .ok (.iload_n 2, 1) := by decide +kernel
theorem dX2_joined_89 : decode cX2_joined 89 = .ok (.ifCond .ne 7, 3) := by decide +kernel
theorem dX2_joined_92 : decode cX2_joined 92 = .ok (.iconst 0, 1) := by decide +kernel
theorem dX2_joined_93 : decode cX2_joined 93 = .ok (.goto 6, 3) := by decide +kernel
theorem dX2_joined_96 : decode cX2_joined 96 = .ok (.iload_n 1, 1) := by decide +kernel
theorem dX2_joined_97 : decode cX2_joined 97 = .ok (.iload_n 2, 1) := by decide +kernel
theorem dX2_joined_98 : decode cX2_joined 98 = .ok (.idiv, 1) := by decide +kernel
theorem dX2_joined_99 : decode cX2_joined 99 = .ok (.ireturn, 1) := by decide +kernel
theorem dX2_joined_100 : decode cX2_joined 100 = .ok (.iload_n 1, 1) := by decide +kernel
theorem dX2_joined_101 : decode cX2_joined 101 = .ok (.iload_n 2, 1) := by decide +kernel
theorem dX2_joined_102 : decode cX2_joined 102 = .ok (.if_icmp .ge 7, 3) := by decide +kernel
theorem dX2_joined_105 : decode cX2_joined 105 = .ok (.iconst 1, 1) := by decide +kernel
theorem dX2_joined_106 : decode cX2_joined 106 = .ok (.goto 4, 3) := by decide +kernel
theorem dX2_joined_109 : decode cX2_joined 109 = .ok (.iconst 0, 1) := by decide +kernel
theorem dX2_joined_110 : decode cX2_joined 110 = .ok (.ireturn, 1) := by decide +kernel
theorem dX2_joined_111 : decode cX2_joined 111 = .ok (.iload_n 1, 1) := by decide +kernel
theorem dX2_joined_112 : decode cX2_joined 112 = .ok (.iload_n 2, 1) := by decide +kernel
theorem dX2_joined_113 : decode cX2_joined 113 = .ok (.if_icmp .ne 7, 3) := by decide +kernel
theorem dX2_joined_116 : decode cX2_joined 116 = .ok (.iconst 1, 1) := by decide +kernel
theorem dX2_joined_117 : decode cX2_joined 117 = .ok (.goto 4, 3) := by decide +kernel
theorem dX2_joined_120 : decode cX2_joined 120 = .ok (.iconst 0, 1) := by decide +kernel
theorem dX2_joined_121 : decode cX2_joined 121 = .ok (.ireturn, 1) := by decide +kernel
theorem dX2_joined_122 : decode cX2_joined 122 = .ok (.iload_n 1, 1) := by decide +kernel
theorem dX2_joined_123 : decode cX2_joined 123 = .ok (.iload_n 2, 1) := by decide +kernel
theorem dX2_joined_124 : decode cX2_joined 124 = .ok (.if_icmp .le 7, 3) := by decide +kernel
theorem dX2_joined_127 : decode cX2_joined 127 = .ok (.iconst 1, 1) := by decide +kernel
theorem dX2_joined_128 : decode cX2_joined 128 = .ok (.goto 4, 3) := by decide +kernel
theorem dX2_joined_131 : decode cX2_joined 131 = .ok (.iconst 0, 1) := by decide +kernel
theorem dX2_joined_132 : decode cX2_joined 132 = .ok (.ireturn, 1) := by decide +kernel
theorem dX2_joined_133 : decode cX2_joined 133 = .ok (.iload_n 1, 1) := by decide +kernel
theorem dX2_joined_134 : decode cX2_joined 134 = .ok (.iload_n 2, 1) := by decide +kernel
theorem dX2_joined_135 : decode cX2_joined 135 = .ok (.iand, 1) := by decide +kernel
theorem dX2_joined_136 : decode cX2_joined 136 = .ok (.ireturn, 1) := by decide +kernel
theorem dX2_joined_137 : decode cX2_joined 137 = .ok (.iload_n 1, 1) := by decide +kernel
theorem dX2_joined_138 : decode cX2_joined 138 = .ok (.iload_n 2, 1) := by decide +kernel
theorem dX2_joined_139 : decode cX2_joined 139 = .ok (.ior, 1) := by decide +kernel
theorem dX2_joined_140 : decode cX2_joined 140 = .ok (.ireturn, 1) := by decide +kernel
theorem dX2_copy_0 : decode cX2_copy 0 = .ok (.aload_n 0, 1) := by decide +kernel
theorem dX2_copy_1 : decode cX2_copy 1 = .ok (.aload_n 1, 1) := by decide +kernel
theorem dX2_copy_2 : decode cX2_copy 2 = .ok (.getfield 30, 3) := by decide +kernel
theorem dX2_copy_5 : decode cX2_copy 5 = .ok (.putfield 30, 3) := by decide +kernel
theorem dX2_copy_8 : decode cX2_copy 8 = .ok (.aload_n 0, 1) := by decide +kernel
theorem dX2_copy_9 : decode cX2_copy 9 = .ok (.aload_n 1, 1) := by decide +kernel
theorem dX2_copy_10 : decode cX2_copy 10 = .ok (.getfield 34, 3) := by decide +kernel
theorem dX2_copy_13 : decode cX2_copy 13 = .ok (.putfield 34, 3) := by decide +kernel
theorem dX2_copy_16 : decode cX2_copy 16 = .ok (.aload_n 1, 1) := by decide +kernel
theorem dX2_copy_17 : decode cX2_copy 17 = .ok (.getfield 11, 3) := by decide +kernel
theorem dX2_copy_20 : decode cX2_copy 20 = .ok (.iconst 0, 1) := by decide +kernel
theorem dX2_copy_21 : decode cX2_copy 21 = .ok (.aload_n 0, 1) := by decide +kernel
theorem dX2_copy_22 : decode cX2_copy 22 = .ok (.getfield 11, 3) := by decide +kernel
theorem dX2_copy_25 : decode cX2_copy 25 = .ok (.iconst 0, 1) := by decide +kernel
theorem dX2_copy_26 : decode cX2_copy 26 = .ok (.aload_n 0, 1) := by decide +kernel
theorem dX2_copy_27 : decode cX2_copy 27 = .ok (.getfield 34, 3) := by decide +kernel
theorem dX2_copy_30 : decode cX2_copy 30 = .ok (.sipush 400, 3) := by decide +kernel
theorem dX2_copy_33 : decode cX2_copy 33 = .ok (.invokestatic 50, 3) := by decide +kernel
theorem dX2_copy_36 : decode cX2_copy 36 = .ok (.invokestatic 53, 3) := by decide +kernel
theorem dX2_copy_39 : decode cX2_copy 39 = .ok (.aload_n 1, 1) := by decide +kernel
theorem dX2_copy_40 : decode cX2_copy 40 = .ok (.getfield 15, 3) := by decide +kernel
theorem dX2_copy_43 : decode cX2_copy 43 = .ok (.iconst 0, 1) := by decide +kernel
theorem dX2_copy_44 : decode cX2_copy 44 = .ok (.aload_n 0, 1) := by decide +kernel
theorem dX2_copy_45 : decode cX2_copy 45 = .ok (.getfield 15, 3) := by decide +kernel
theorem dX2_copy_48 : decode cX2_copy 48 = .ok (.iconst 0, 1) := by decide +kernel
theorem dX2_copy_49 : decode cX2_copy 49 = .ok (.bipush 16, 2) := by decide +kernel
theorem dX2_copy_51 : decode cX2_copy 51 = .ok (.invokestatic 53, 3) := by decide +kernel
theorem dX2_copy_54 : decode cX2_copy 54 = .ok (.aload_n 1, 1) := by decide +kernel
theorem dX2_copy_55 : decode cX2_copy 55 = .ok (.getfield 18, 3) := by decide +kernel
theorem dX2_copy_58 : decode cX2_copy 58 = .ok (.iconst 0, 1) := by decide +kernel
theorem dX2_copy_59 : decode cX2_copy 59 = .ok (.aload_n 0, 1) := by decide +kernel
theorem dX2_copy_60 : decode cX2_copy 60 = .ok (.getfield 18, 3) := by decide +kernel
theorem dX2_copy_63 : decode cX2_copy 63 = .ok (.iconst 0, 1) := by decide +kernel
theorem dX2_copy_64 : decode cX2_copy 64 = .ok (.bipush 17, 2) := by decide +kernel
theorem dX2_copy_66 : decode cX2_copy 66 = .ok (.invokestatic 53, 3) := by decide +kernel
theorem dX2_copy_69 : decode cX2_copy 69 = .ok (.aload_n 1, 1) := by decide +kernel
theorem dX2_copy_70 : decode cX2_copy 70 = .ok (.getfield 21, 3) := by decide +kernel
theorem dX2_copy_73 : decode cX2_copy 73 = .ok (.iconst 0, 1) := by decide +kernel
theorem dX2_copy_74 : decode cX2_copy 74 = .ok (.aload_n 0, 1) := by decide +kernel
theorem dX2_copy_75 : decode cX2_copy 75 = .ok (.getfield 21, 3) := by decide +kernel
theorem dX2_copy_78 : decode cX2_copy 78 = .ok (.iconst 0, 1) := by decide +kernel
theorem dX2_copy_79 : decode cX2_copy 79 = .ok (.bipush 16, 2) := by decide +kernel
theorem dX2_copy_81 : decode cX2_copy 81 = .ok (.invokestatic 53, 3) := by decide +kernel
theorem dX2_copy_84 : decode cX2_copy 84 = .ok (.return_, 1) := by decide +kernel
theorem dX3_init_0 : decode cX3_init 0 = .ok (.aload_n 0, 1) := by decide +kernel
theorem dX3_init_1 : decode cX3_init 1 = .ok (.invokespecial 3, 3) := by decide +kernel
theorem dX3_init_4 : decode cX3_init 4 = .ok (.aload_n 0, 1) := by decide +kernel
theorem dX3_init_5 : decode cX3_init 5 = .ok (.sipush 336, 3) := by decide +kernel
theorem dX3_init_8 : decode cX3_init 8 = .ok (.newarray .int, 2) := by decide +kernel
theorem dX3_init_10 : decode cX3_init 10 = .ok (.putfield 9, 3) := by decide +kernel
theorem dX3_init_13 : decode cX3_init 13 = .ok (.aload_n 0, 1) := by decide +kernel
theorem dX3_init_14 : decode cX3_init 14 = .ok (.bipush 72, 2) := by decide +kernel
theorem dX3_init_16 : decode cX3_init 16 = .ok (.newarray .int, 2) := by decide +kernel
theorem dX3_init_18 : decode cX3_init 18 = .ok (.putfield 15, 3) := by decide +kernel
theorem dX3_init_21 : decode cX3_init 21 = .ok (.aload_n 0, 1) := by decide +kernel
theorem dX3_init_22 : decode cX3_init 22 = .ok (.bipush 24, 2) := by decide +kernel
theorem dX3_init_24 : decode cX3_init 24 = .ok (.newarray .int, 2) := by decide +kernel
theorem dX3_init_26 : decode cX3_init 26 = .ok (.putfield 18, 3) := by decide +kernel
theorem dX3_init_29 : decode cX3_init 29 = .ok (.return_, 1) := by decide +kernel
theorem dX3_keep_0 : decode cX3_keep 0 = .ok (.aload_n 1, 1) := by decide +kernel
theorem dX3_keep_1 : decode cX3_keep 1 = .ok (.getfield 21, 3) := by decide +kernel
theorem dX3_keep_4 : decode cX3_keep 4 = .ok (.iconst 0, 1) := by decide +kernel
theorem dX3_keep_5 : decode cX3_keep 5 = .ok (.aload_n 0, 1) := by decide +kernel
theorem dX3_keep_6 : decode cX3_keep 6 = .ok (.getfield 9, 3) := by decide +kernel
theorem dX3_keep_9 : decode cX3_keep 9 = .ok (.aload_n 0, 1) := by decide +kernel
theorem dX3_keep_10 : decode cX3_keep 10 = .ok (.getfield 24, 3) := by decide +kernel
theorem dX3_keep_13 : decode cX3_keep 13 = .ok (.bipush 56, 2) := by decide +kernel
theorem dX3_keep_15 : decode cX3_keep 15 = .ok (.imul, 1) := by decide +kernel
theorem dX3_keep_16 : decode cX3_keep 16 = .ok (.bipush 56, 2) := by decide +kernel
theorem dX3_keep_18 : decode cX3_keep 18 = .ok (.invokestatic 28, 3) := by decide +kernel
theorem dX3_keep_21 : decode cX3_keep 21 = .ok (.aload_n 1, 1) := by decide +kernel
theorem dX3_keep_22 : decode cX3_keep 22 = .ok (.getfield 34, 3) := by decide +kernel
theorem dX3_keep_25 : decode cX3_keep 25 = .ok (.getfield 38, 3) := by decide +kernel
theorem dX3_keep_28 : decode cX3_keep 28 = .ok (.iconst 0, 1) := by decide +kernel
theorem dX3_keep_29 : decode cX3_keep 29 = .ok (.aload_n 0, 1) := by decide +kernel
theorem dX3_keep_30 : decode cX3_keep 30 = .ok (.getfield 15, 3) := by decide +kernel
theorem dX3_keep_33 : decode cX3_keep 33 = .ok (.aload_n 0, 1) := by decide +kernel
theorem dX3_keep_34 : decode cX3_keep 34 = .ok (.getfield 24, 3) := by decide +kernel
theorem dX3_keep_37 : decode cX3_keep 37 = .ok (.bipush 12, 2) := by decide +kernel
theorem dX3_keep_39 : decode cX3_keep 39 = .ok (.imul, 1) := by decide +kernel
theorem dX3_keep_40 : decode cX3_keep 40 = .ok (.bipush 12, 2) := by decide +kernel
theorem dX3_keep_42 : decode cX3_keep 42 = .ok (.invokestatic 28, 3) := by decide +kernel
theorem dX3_keep_45 : decode cX3_keep 45 = .ok (.aload_n 0, 1) := by decide +kernel
theorem dX3_keep_46 : decode cX3_keep 46 = .ok (.getfield 24, 3) := by decide +kernel
theorem dX3_keep_49 : decode cX3_keep 49 = .ok (.iconst 4, 1) := by decide +kernel
theorem dX3_keep_50 : decode cX3_keep 50 = .ok (.imul, 1) := by decide +kernel
theorem dX3_keep_51 : decode cX3_keep 51 = .ok (.istore_n 2, 1) := by decide +kernel
theorem dX3_keep_52 : decode cX3_keep 52 = .ok (.aload_n 0, 1) := by decide +kernel
theorem dX3_keep_53 : decode cX3_keep 53 = .ok (.getfield 18, 3) := by decide +kernel
theorem dX3_keep_56 : decode cX3_keep 56 = .ok (.iload_n 2, 1) := by decide +kernel
theorem dX3_keep_57 : decode cX3_keep 57 = .ok (.aload_n 1, 1) := by decide +kernel
theorem dX3_keep_58 : decode cX3_keep 58 = .ok (.getfield 41, 3) := by decide +kernel
theorem dX3_keep_61 : decode cX3_keep 61 = .ok (.iastore, 1) := by decide +kernel
theorem dX3_keep_62 : decode cX3_keep 62 = .ok (.aload_n 0, 1) := by decide +kernel
theorem dX3_keep_63 : decode cX3_keep 63 = .ok (.getfield 18, 3) := by decide +kernel
theorem dX3_keep_66 : decode cX3_keep 66 = .ok (.iload_n 2, 1) := by decide +kernel
theorem dX3_keep_67 : decode cX3_keep 67 = .ok (.iconst 1, 1) := by decide +kernel
theorem dX3_keep_68 : decode cX3_keep 68 = .ok (.iadd, 1) := by decide +kernel
theorem dX3_keep_69 : decode cX3_keep 69 = .ok (.aload_n 1, 1) := by decide +kernel
theorem dX3_keep_70 : decode cX3_keep 70 = .ok (.getfield 44, 3) := by decide +kernel
theorem dX3_keep_73 : decode cX3_keep 73 = .ok (.iastore, 1) := by decide +kernel
theorem dX3_keep_74 : decode cX3_keep 74 = .ok (.aload_n 0, 1) := by decide +kernel
theorem dX3_keep_75 : decode cX3_keep 75 = .ok (.getfield 18, 3) := by decide +kernel
theorem dX3_keep_78 : decode cX3_keep 78 = .ok (.iload_n 2, 1) := by decide +kernel
theorem dX3_keep_79 : decode cX3_keep 79 = .ok (.iconst 2, 1) := by decide +kernel
theorem dX3_keep_80 : decode cX3_keep 80 = .ok (.iadd, 1) := by decide +kernel
theorem dX3_keep_81 : decode cX3_keep 81 = .ok (.aload_n 1, 1) := by decide +kernel
theorem dX3_keep_82 : decode cX3_keep 82 = .ok (.getfield 47, 3) := by decide +kernel
theorem dX3_keep_85 : decode cX3_keep 85 = .ok (.iastore, 1) := by decide +kernel
theorem dX3_keep_86 : decode cX3_keep 86 = .ok (.aload_n 0, 1) := by decide +kernel
theorem dX3_keep_87 : decode cX3_keep 87 = .ok (.getfield 18, 3) := by decide +kernel
theorem dX3_keep_90 : decode cX3_keep 90 = .ok (.iload_n 2, 1) := by decide +kernel
theorem dX3_keep_91 : decode cX3_keep 91 = .ok (.iconst 3, 1) := by decide +kernel
theorem dX3_keep_92 : decode cX3_keep 92 = .ok (.iadd, 1) := by decide +kernel
theorem dX3_keep_93 : decode cX3_keep 93 = .ok (.aload_n 1, 1) := by decide +kernel
theorem dX3_keep_94 : decode cX3_keep 94 = .ok (.getfield 50, 3) := by decide +kernel
theorem dX3_keep_97 : decode cX3_keep 97 = .ok (.getfield 54, 3) := by decide +kernel
theorem dX3_keep_100 : decode cX3_keep 100 = .ok (.iastore, 1) := by decide +kernel
theorem dX3_keep_101 : decode cX3_keep 101 = .ok (.aload_n 0, 1) := by decide +kernel
theorem dX3_keep_102 : decode cX3_keep 102 = .ok (.aload_n 0, 1) := by decide +kernel
theorem dX3_keep_103 : decode cX3_keep 103 = .ok (.getfield 24, 3) := by decide +kernel
theorem dX3_keep_106 : decode cX3_keep 106 = .ok (.iconst 1, 1) := by decide +kernel
theorem dX3_keep_107 : decode cX3_keep 107 = .ok (.iadd, 1) := by decide +kernel
theorem dX3_keep_108 : decode cX3_keep 108 = .ok (.bipush 6, 2) := by decide +kernel
theorem dX3_keep_110 : decode cX3_keep 110 = .ok (.irem, 1) := by decide +kernel
theorem dX3_keep_111 : decode cX3_keep 111 = .ok (.putfield 24, 3) := by decide +kernel
theorem dX3_keep_114 : decode cX3_keep 114 = .ok (.aload_n 0, 1) := by decide +kernel
theorem dX3_keep_115 : decode cX3_keep 115 = .ok (.aload_n 0, 1) := by decide +kernel
theorem dX3_keep_116 : decode cX3_keep 116 = .ok (.getfield 59, 3) := by decide +kernel
theorem dX3_keep_119 : decode cX3_keep 119 = .ok (.iconst 1, 1) := by decide +kernel
theorem dX3_keep_120 : decode cX3_keep 120 = .ok (.iadd, 1) := by decide +kernel
theorem dX3_keep_121 : decode cX3_keep 121 = .ok (.bipush 6, 2) := by decide +kernel
theorem dX3_keep_123 : decode cX3_keep 123 = .ok (.invokestatic 60, 3) := by decide +kernel
theorem dX3_keep_126 : decode cX3_keep 126 = .ok (.putfield 59, 3) := by decide +kernel
theorem dX3_keep_129 : decode cX3_keep 129 = .ok (.return_, 1) := by decide +kernel
theorem dX3_giveBack_0 : decode cX3_giveBack 0 = .ok (.aload_n 0, 1) := by decide +kernel
theorem dX3_giveBack_1 : decode cX3_giveBack 1 = .ok (.getfield 59, 3) := by decide +kernel
theorem dX3_giveBack_4 : decode cX3_giveBack 4 = .ok (.ifCond .gt 5, 3) := by decide +kernel
theorem dX3_giveBack_7 : decode cX3_giveBack 7 = .ok (.iconst 0, 1) := by decide +kernel
theorem dX3_giveBack_8 : decode cX3_giveBack 8 = .ok (.ireturn, 1) := by decide +kernel
theorem dX3_giveBack_9 : decode cX3_giveBack 9 = .ok (.aload_n 0, 1) := by decide +kernel
theorem dX3_giveBack_10 : decode cX3_giveBack 10 = .ok (.aload_n 0, 1) := by decide +kernel
theorem dX3_giveBack_11 : decode cX3_giveBack 11 = .ok (.getfield 24, 3) := by decide +kernel
theorem dX3_giveBack_14 : decode cX3_giveBack 14 = .ok (.bipush 6, 2) := by decide +kernel
theorem dX3_giveBack_16 : decode cX3_giveBack 16 = .ok (.iadd, 1) := by decide +kernel
theorem dX3_giveBack_17 : decode cX3_giveBack 17 = .ok (.iconst 1, 1) := by decide +kernel
theorem dX3_giveBack_18 : decode cX3_giveBack 18 = .ok (.isub, 1) := by decide +kernel
theorem dX3_giveBack_19 : decode cX3_giveBack 19 = .ok (.bipush 6, 2) := by decide +kernel
theorem dX3_giveBack_21 : decode cX3_giveBack 21 = .ok (.irem, 1) := by decide +kernel
theorem dX3_giveBack_22 : decode cX3_giveBack 22 = .ok (.putfield 24, 3) := by decide +kernel
theorem dX3_giveBack_25 : decode cX3_giveBack 25 = .ok (.aload_n 0, 1) := by decide +kernel
theorem dX3_giveBack_26 : decode cX3_giveBack 26 = .ok (.dup, 1) := by decide +kernel
theorem dX3_giveBack_27 : decode cX3_giveBack 27 = .ok (.getfield 59, 3) := by decide +kernel
theorem dX3_giveBack_30 : decode cX3_giveBack 30 = .ok (.iconst 1, 1) := by decide +kernel
theorem dX3_giveBack_31 : decode cX3_giveBack 31 = .ok (.isub, 1) := by decide +kernel
theorem dX3_giveBack_32 : decode cX3_giveBack 32 = .ok (.putfield 59, 3) := by decide +kernel
theorem dX3_giveBack_35 : decode cX3_giveBack 35 = .ok (.aload_n 0, 1) := by decide +kernel
theorem dX3_giveBack_36 : decode cX3_giveBack 36 = .ok (.getfield 9, 3) := by decide +kernel
theorem dX3_giveBack_39 : decode cX3_giveBack 39 = .ok (.aload_n 0, 1) := by decide +kernel
theorem dX3_giveBack_40 : decode cX3_giveBack 40 = .ok (.getfield 24, 3) := by decide +kernel
theorem dX3_giveBack_43 : decode cX3_giveBack 43 = .ok (.bipush 56, 2) := by decide +kernel
theorem dX3_giveBack_45 : decode cX3_giveBack 45 = .ok (.imul, 1) := by decide +kernel
theorem dX3_giveBack_46 : decode cX3_giveBack 46 = .ok (.aload_n 1, 1) := by decide +kernel
theorem dX3_giveBack_47 : decode cX3_giveBack 47 = .ok (.getfield 21, 3) := by decide +kernel
theorem dX3_giveBack_50 : decode cX3_giveBack 50 = .ok (.iconst 0, 1) := by decide +kernel
theorem dX3_giveBack_51 : decode cX3_giveBack 51 = .ok (.bipush 56, 2) := by decide +kernel
theorem dX3_giveBack_53 : decode cX3_giveBack 53 = .ok (.invokestatic 28, 3) := by decide +kernel
theorem dX3_giveBack_56 : decode cX3_giveBack 56 = .ok (.aload_n 0, 1) := by decide +kernel
theorem dX3_giveBack_57 : decode cX3_giveBack 57 = .ok (.getfield 15, 3) := by decide +kernel
theorem dX3_giveBack_60 : decode cX3_giveBack 60 = .ok (.aload_n 0, 1) := by decide +kernel
theorem dX3_giveBack_61 : decode cX3_giveBack 61 = .ok (.getfield 24, 3) := by decide +kernel
theorem dX3_giveBack_64 : decode cX3_giveBack 64 = .ok (.bipush 12, 2) := by decide +kernel
theorem dX3_giveBack_66 : decode cX3_giveBack 66 = .ok (.imul, 1) := by decide +kernel
theorem dX3_giveBack_67 : decode cX3_giveBack 67 = .ok (.aload_n 1, 1) := by decide +kernel
theorem dX3_giveBack_68 : decode cX3_giveBack 68 = .ok (.getfield 34, 3) := by decide +kernel
theorem dX3_giveBack_71 : decode cX3_giveBack 71 = .ok (.getfield 38, 3) := by decide +kernel
theorem dX3_giveBack_74 : decode cX3_giveBack 74 = .ok (.iconst 0, 1) := by decide +kernel
theorem dX3_giveBack_75 : decode cX3_giveBack 75 = .ok (.bipush 12, 2) := by decide +kernel
theorem dX3_giveBack_77 : decode cX3_giveBack 77 = .ok (.invokestatic 28, 3) := by decide +kernel
theorem dX3_giveBack_80 : decode cX3_giveBack 80 = .ok (.aload_n 0, 1) := by decide +kernel
theorem dX3_giveBack_81 : decode cX3_giveBack 81 = .ok (.getfield 24, 3) := by decide +kernel
theorem dX3_giveBack_84 : decode cX3_giveBack 84 = .ok (.iconst 4, 1) := by decide +kernel
theorem dX3_giveBack_85 : decode cX3_giveBack 85 = .ok (.imul, 1) := by decide +kernel
theorem dX3_giveBack_86 : decode cX3_giveBack 86 = .ok (.istore_n 2, 1) := by decide +kernel
theorem dX3_giveBack_87 : decode cX3_giveBack 87 = .ok (.aload_n 1, 1) := by decide +kernel
theorem dX3_giveBack_88 : decode cX3_giveBack 88 = .ok (.aload_n 0, 1) := by decide +kernel
theorem dX3_giveBack_89 : decode cX3_giveBack 89 = .ok (.getfield 18, 3) := by decide +kernel
theorem dX3_giveBack_92 : decode cX3_giveBack 92 = .ok (.iload_n 2, 1) := by decide +kernel
theorem dX3_giveBack_93 : decode cX3_giveBack 93 = .ok (.iaload, 1) := by decide +kernel
theorem dX3_giveBack_94 : decode cX3_giveBack 94 = .ok (.putfield 41, 3) := by decide +kernel
theorem dX3_giveBack_97 : decode cX3_giveBack 97 = .ok (.aload_n 1, 1) := by decide +kernel
theorem dX3_giveBack_98 : decode cX3_giveBack 98 = .ok (.aload_n 0, 1) := by decide +kernel
theorem dX3_giveBack_99 : decode cX3_giveBack 99 = .ok (.getfield 18, 3) := by decide +kernel
theorem dX3_giveBack_102 : decode cX3_giveBack 102 = .ok (.iload_n 2, 1) := by decide +kernel
theorem dX3_giveBack_103 : decode cX3_giveBack 103 = .ok (.iconst 1, 1) := by decide +kernel
theorem dX3_giveBack_104 : decode cX3_giveBack 104 = .ok (.iadd, 1) := by decide +kernel
theorem dX3_giveBack_105 : decode cX3_giveBack 105 = .ok (.iaload, 1) := by decide +kernel
theorem dX3_giveBack_106 : decode cX3_giveBack 106 = .ok (.putfield 44, 3) := by decide +kernel
theorem dX3_giveBack_109 : decode cX3_giveBack 109 = .ok (.aload_n 1, 1) := by decide +kernel
theorem dX3_giveBack_110 : decode cX3_giveBack 110 = .ok (.aload_n 0, 1) := by decide +kernel
theorem dX3_giveBack_111 : decode cX3_giveBack 111 = .ok (.getfield 18, 3) := by decide +kernel
theorem dX3_giveBack_114 : decode cX3_giveBack 114 = .ok (.iload_n 2, 1) := by decide +kernel
theorem dX3_giveBack_115 : decode cX3_giveBack 115 = .ok (.iconst 2, 1) := by decide +kernel
theorem dX3_giveBack_116 : decode cX3_giveBack 116 = .ok (.iadd, 1) := by decide +kernel
theorem dX3_giveBack_117 : decode cX3_giveBack 117 = .ok (.iaload, 1) := by decide +kernel
theorem dX3_giveBack_118 : decode cX3_giveBack 118 = .ok (.putfield 47, 3) := by decide +kernel
theorem dX3_giveBack_121 : decode cX3_giveBack 121 = .ok (.aload_n 1, 1) := by decide +kernel
theorem dX3_giveBack_122 : decode cX3_giveBack 122 = .ok (.getfield 50, 3) := by decide +kernel
theorem dX3_giveBack_125 : decode cX3_giveBack 125 = .ok (.aload_n 0, 1) := by decide +kernel
theorem dX3_giveBack_126 : decode cX3_giveBack 126 = .ok (.getfield 18, 3) := by decide +kernel
theorem dX3_giveBack_129 : decode cX3_giveBack 129 = .ok (.iload_n 2, 1) := by decide +kernel
theorem dX3_giveBack_130 : decode cX3_giveBack 130 = .ok (.iconst 3, 1) := by decide +kernel
theorem dX3_giveBack_131 : decode cX3_giveBack 131 = .ok (.iadd, 1) := by decide +kernel
theorem dX3_giveBack_132 : decode cX3_giveBack 132 = .ok (.iaload, 1) := by decide +kernel
theorem dX3_giveBack_133 : decode cX3_giveBack 133 = .ok (.putfield 54, 3) := by decide +kernel
theorem dX3_giveBack_136 : decode cX3_giveBack 136 = .ok (.iconst 1, 1) := by decide +kernel
theorem dX3_giveBack_137 : decode cX3_giveBack 137 = .ok (.ireturn, 1) := by decide +kernel
theorem dX4_init_0 : decode cX4_init 0 = .ok (.aload_n 0, 1) := by decide +kernel
theorem dX4_init_1 : decode cX4_init 1 = .ok (.invokespecial 3, 3) := by decide +kernel
theorem dX4_init_4 : decode cX4_init 4 = .ok (.aload_n 0, 1) := by decide +kernel
theorem dX4_init_5 : decode cX4_init 5 = .ok (.iconst 0, 1) := by decide +kernel
theorem dX4_init_6 : decode cX4_init 6 = .ok (.putfield 9, 3) := by decide +kernel
theorem dX4_init_9 : decode cX4_init 9 = .ok (.aload_n 0, 1) := by decide +kernel
theorem dX4_init_10 : decode cX4_init 10 = .ok (.iconst (-1), 1) := by decide +kernel
theorem dX4_init_11 : decode cX4_init 11 = .ok (.putfield 15, 3) := by decide +kernel
theorem dX4_init_14 : decode cX4_init 14 = .ok (.aload_n 0, 1) := by decide +kernel
theorem dX4_init_15 : decode cX4_init 15 = .ok (.aload_n 1, 1) := by decide +kernel
theorem dX4_init_16 : decode cX4_init 16 = .ok (.putfield 18, 3) := by decide +kernel
theorem dX4_init_19 : decode cX4_init 19 = .ok (.aload_n 0, 1) := by decide +kernel
theorem dX4_init_20 : decode cX4_init 20 = .ok (.aload_n 2, 1) := by decide +kernel
theorem dX4_init_21 : decode cX4_init 21 = .ok (.putfield 22, 3) := by decide +kernel
theorem dX4_init_24 : decode cX4_init 24 = .ok (.aload_n 0, 1) := by decide +kernel
theorem dX4_init_25 : decode cX4_init 25 = .ok (.aload_n 3, 1) := by decide +kernel
theorem dX4_init_26 : decode cX4_init 26 = .ok (.putfield 26, 3) := by decide +kernel
theorem dX4_init_29 : decode cX4_init 29 = .ok (.return_, 1) := by decide +kernel
theorem dX4_reads_0 : decode cX4_reads 0 = .ok (.aload_n 0, 1) := by decide +kernel
theorem dX4_reads_1 : decode cX4_reads 1 = .ok (.iconst 0, 1) := by decide +kernel
theorem dX4_reads_2 : decode cX4_reads 2 = .ok (.putfield 29, 3) := by decide +kernel
theorem dX4_reads_5 : decode cX4_reads 5 = .ok (.aload_n 0, 1) := by decide +kernel
theorem dX4_reads_6 : decode cX4_reads 6 = .ok (.aload_n 0, 1) := by decide +kernel
theorem dX4_reads_7 : decode cX4_reads 7 = .ok (.getfield 18, 3) := by decide +kernel
theorem dX4_reads_10 : decode cX4_reads 10 = .ok (.getfield 32, 3) := by decide +kernel
theorem dX4_reads_13 : decode cX4_reads 13 = .ok (.iconst 0, 1) := by decide +kernel
theorem dX4_reads_14 : decode cX4_reads 14 = .ok (.iaload, 1) := by decide +kernel
theorem dX4_reads_15 : decode cX4_reads 15 = .ok (.putfield 38, 3) := by decide +kernel
theorem dX4_reads_18 : decode cX4_reads 18 = .ok (.aload_n 0, 1) := by decide +kernel
theorem dX4_reads_19 : decode cX4_reads 19 = .ok (.iconst 0, 1) := by decide +kernel
theorem dX4_reads_20 : decode cX4_reads 20 = .ok (.putfield 9, 3) := by decide +kernel
theorem dX4_reads_23 : decode cX4_reads 23 = .ok (.aload_n 0, 1) := by decide +kernel
theorem dX4_reads_24 : decode cX4_reads 24 = .ok (.iconst (-1), 1) := by decide +kernel
theorem dX4_reads_25 : decode cX4_reads 25 = .ok (.putfield 15, 3) := by decide +kernel
theorem dX4_reads_28 : decode cX4_reads 28 = .ok (.aload_n 0, 1) := by decide +kernel
theorem dX4_reads_29 : decode cX4_reads 29 = .ok (.getfield 26, 3) := by decide +kernel
theorem dX4_reads_32 : decode cX4_reads 32 = .ok (.getfield 41, 3) := by decide +kernel
theorem dX4_reads_35 : decode cX4_reads 35 = .ok (.invokevirtual 47, 3) := by decide +kernel
theorem dX4_reads_38 : decode cX4_reads 38 = .ok (.aload_n 0, 1) := by decide +kernel
theorem dX4_reads_39 : decode cX4_reads 39 = .ok (.getfield 26, 3) := by decide +kernel
theorem dX4_reads_42 : decode cX4_reads 42 = .ok (.iload_n 1, 1) := by decide +kernel
theorem dX4_reads_43 : decode cX4_reads 43 = .ok (.invokevirtual 52, 3) := by decide +kernel
theorem dX4_reads_46 : decode cX4_reads 46 = .ok (.iconst 0, 1) := by decide +kernel
theorem dX4_reads_47 : decode cX4_reads 47 = .ok (.putfield 56, 3) := by decide +kernel
theorem dX4_reads_50 : decode cX4_reads 50 = .ok (.iconst 0, 1) := by decide +kernel
theorem dX4_reads_51 : decode cX4_reads 51 = .ok (.istore_n 2, 1) := by decide +kernel
theorem dX4_reads_52 : decode cX4_reads 52 = .ok (.iload_n 2, 1) := by decide +kernel
theorem dX4_reads_53 : decode cX4_reads 53 = .ok (.sipush 400, 3) := by decide +kernel
theorem dX4_reads_56 : decode cX4_reads 56 = .ok (.if_icmp .gt 97, 3) := by decide +kernel
theorem dX4_reads_59 : decode cX4_reads 59 = .ok (.aload_n 0, 1) := by decide +kernel
theorem dX4_reads_60 : decode cX4_reads 60 = .ok (.getfield 38, 3) := by decide +kernel
theorem dX4_reads_63 : decode cX4_reads 63 = .ok (.ifCond .eq 90, 3) := by decide +kernel
theorem dX4_reads_66 : decode cX4_reads 66 = .ok (.iload_n 1, 1) := by decide +kernel
theorem dX4_reads_67 : decode cX4_reads 67 = .ok (.ifCond .ne 10, 3) := by decide +kernel
theorem dX4_reads_70 : decode cX4_reads 70 = .ok (.aload_n 0, 1) := by decide +kernel
theorem dX4_reads_71 : decode cX4_reads 71 = .ok (.invokevirtual 61, 3) := by decide +kernel
theorem dX4_reads_74 : decode cX4_reads 74 = .ok (.goto 31, 3) := by decide +kernel
theorem dX4_reads_77 : decode cX4_reads 77 = .ok (.iload_n 1, 1) := by decide +kernel
theorem dX4_reads_78 : decode cX4_reads 78 = .ok (.iconst 1, 1) := by decide +kernel
theorem dX4_reads_79 : decode cX4_reads 79 = .ok (.if_icmp .ne 10, 3) := by decide +kernel
theorem dX4_reads_82 : decode cX4_reads 82 = .ok (.aload_n 0, 1) := by decide +kernel
theorem dX4_reads_83 : decode cX4_reads 83 = .ok (.invokevirtual 65, 3) := by decide +kernel
theorem dX4_reads_86 : decode cX4_reads 86 = .ok (.goto 19, 3) := by decide +kernel
theorem dX4_reads_89 : decode cX4_reads 89 = .ok (.iload_n 1, 1) := by decide +kernel
theorem dX4_reads_90 : decode cX4_reads 90 = .ok (.iconst 2, 1) := by decide +kernel
theorem dX4_reads_91 : decode cX4_reads 91 = .ok (.if_icmp .ne 10, 3) := by decide +kernel
theorem dX4_reads_94 : decode cX4_reads 94 = .ok (.aload_n 0, 1) := by decide +kernel
theorem dX4_reads_95 : decode cX4_reads 95 = .ok (.invokevirtual 68, 3) := by decide +kernel
theorem dX4_reads_98 : decode cX4_reads 98 = .ok (.goto 7, 3) := by decide +kernel
theorem dX4_reads_101 : decode cX4_reads 101 = .ok (.aload_n 0, 1) := by decide +kernel
theorem dX4_reads_102 : decode cX4_reads 102 = .ok (.invokevirtual 71, 3) := by decide +kernel
theorem dX4_reads_105 : decode cX4_reads 105 = .ok (.istore_n 3, 1) := by decide +kernel
theorem dX4_reads_106 : decode cX4_reads 106 = .ok (.iload_n 3, 1) := by decide +kernel
theorem dX4_reads_107 : decode cX4_reads 107 = .ok (.ifCond .ne 40, 3) := by decide +kernel
theorem dX4_reads_110 : decode cX4_reads 110 = .ok (.aload_n 0, 1) := by decide +kernel
theorem dX4_reads_111 : decode cX4_reads 111 = .ok (.aload_n 0, 1) := by decide +kernel
theorem dX4_reads_112 : decode cX4_reads 112 = .ok (.getfield 9, 3) := by decide +kernel
theorem dX4_reads_115 : decode cX4_reads 115 = .ok (.ifCond .ne 7, 3) := by decide +kernel
theorem dX4_reads_118 : decode cX4_reads 118 = .ok (.iconst 1, 1) := by decide +kernel
theorem dX4_reads_119 : decode cX4_reads 119 = .ok (.goto 7, 3) := by decide +kernel
theorem dX4_reads_122 : decode cX4_reads 122 = .ok (.aload_n 0, 1) := by decide +kernel
theorem dX4_reads_123 : decode cX4_reads 123 = .ok (.getfield 9, 3) := by decide +kernel
theorem dX4_reads_126 : decode cX4_reads 126 = .ok (.putfield 9, 3) := by decide +kernel
theorem dX4_reads_129 : decode cX4_reads 129 = .ok (.aload_n 0, 1) := by decide +kernel
theorem dX4_reads_130 : decode cX4_reads 130 = .ok (.aload_n 0, 1) := by decide +kernel
theorem dX4_reads_131 : decode cX4_reads 131 = .ok (.getfield 18, 3) := by decide +kernel
theorem dX4_reads_134 : decode cX4_reads 134 = .ok (.getfield 74, 3) := by decide +kernel
theorem dX4_reads_137 : decode cX4_reads 137 = .ok (.aload_n 0, 1) := by decide +kernel
theorem dX4_reads_138 : decode cX4_reads 138 = .ok (.getfield 29, 3) := by decide +kernel
theorem dX4_reads_141 : decode cX4_reads 141 = .ok (.iaload, 1) := by decide +kernel
theorem dX4_reads_142 : decode cX4_reads 142 = .ok (.putfield 15, 3) := by decide +kernel
theorem dX4_reads_145 : decode cX4_reads 145 = .ok (.iconst 0, 1) := by decide +kernel
theorem dX4_reads_146 : decode cX4_reads 146 = .ok (.ireturn, 1) := by decide +kernel
theorem dX4_reads_147 : decode cX4_reads 147 = .ok (.iinc 2 1, 3) := by decide +kernel
theorem dX4_reads_150 : decode cX4_reads 150 = .ok (.goto (-98), 3) := by decide +kernel
theorem dX4_reads_153 : decode cX4_reads 153 = .ok (.iconst 1, 1) := by decide +kernel
theorem dX4_reads_154 : decode cX4_reads 154 = .ok (.ireturn, 1) := by decide +kernel
theorem dX4_pass_0 : decode cX4_pass 0 = .ok (.aload_n 0, 1) := by decide +kernel
theorem dX4_pass_1 : decode cX4_pass 1 = .ok (.getfield 29, 3) := by decide +kernel
theorem dX4_pass_4 : decode cX4_pass 4 = .ok (.sipush 400, 3) := by decide +kernel
theorem dX4_pass_7 : decode cX4_pass 7 = .ok (.if_icmp .ge 13, 3) := by decide +kernel
theorem dX4_pass_10 : decode cX4_pass 10 = .ok (.aload_n 0, 1) := by decide +kernel
theorem dX4_pass_11 : decode cX4_pass 11 = .ok (.dup, 1) := by decide +kernel
theorem dX4_pass_12 : decode cX4_pass 12 = .ok (.getfield 29, 3) := by decide +kernel
theorem dX4_pass_15 : decode cX4_pass 15 = .ok (.iconst 1, 1) := by decide +kernel
theorem dX4_pass_16 : decode cX4_pass 16 = .ok (.iadd, 1) := by decide +kernel
theorem dX4_pass_17 : decode cX4_pass 17 = .ok (.putfield 29, 3) := by decide +kernel
theorem dX4_pass_20 : decode cX4_pass 20 = .ok (.aload_n 0, 1) := by decide +kernel
theorem dX4_pass_21 : decode cX4_pass 21 = .ok (.aload_n 0, 1) := by decide +kernel
theorem dX4_pass_22 : decode cX4_pass 22 = .ok (.getfield 18, 3) := by decide +kernel
theorem dX4_pass_25 : decode cX4_pass 25 = .ok (.getfield 32, 3) := by decide +kernel
theorem dX4_pass_28 : decode cX4_pass 28 = .ok (.aload_n 0, 1) := by decide +kernel
theorem dX4_pass_29 : decode cX4_pass 29 = .ok (.getfield 29, 3) := by decide +kernel
theorem dX4_pass_32 : decode cX4_pass 32 = .ok (.iaload, 1) := by decide +kernel
theorem dX4_pass_33 : decode cX4_pass 33 = .ok (.putfield 38, 3) := by decide +kernel
theorem dX4_pass_36 : decode cX4_pass 36 = .ok (.return_, 1) := by decide +kernel
theorem dX4_refuse_0 : decode cX4_refuse 0 = .ok (.aload_n 0, 1) := by decide +kernel
theorem dX4_refuse_1 : decode cX4_refuse 1 = .ok (.iload_n 1, 1) := by decide +kernel
theorem dX4_refuse_2 : decode cX4_refuse 2 = .ok (.putfield 9, 3) := by decide +kernel
theorem dX4_refuse_5 : decode cX4_refuse 5 = .ok (.iconst 0, 1) := by decide +kernel
theorem dX4_refuse_6 : decode cX4_refuse 6 = .ok (.ireturn, 1) := by decide +kernel
theorem dX4_passes_0 : decode cX4_passes 0 = .ok (.aload_n 0, 1) := by decide +kernel
theorem dX4_passes_1 : decode cX4_passes 1 = .ok (.getfield 38, 3) := by decide +kernel
theorem dX4_passes_4 : decode cX4_passes 4 = .ok (.iload_n 1, 1) := by decide +kernel
theorem dX4_passes_5 : decode cX4_passes 5 = .ok (.if_icmp .eq 5, 3) := by decide +kernel
theorem dX4_passes_8 : decode cX4_passes 8 = .ok (.iconst 0, 1) := by decide +kernel
theorem dX4_passes_9 : decode cX4_passes 9 = .ok (.ireturn, 1) := by decide +kernel
theorem dX4_passes_10 : decode cX4_passes 10 = .ok (.aload_n 0, 1) := by decide +kernel
theorem dX4_passes_11 : decode cX4_passes 11 = .ok (.invokevirtual 77, 3) := by decide +kernel
theorem dX4_passes_14 : decode cX4_passes 14 = .ok (.iconst 1, 1) := by decide +kernel
theorem dX4_passes_15 : decode cX4_passes 15 = .ok (.ireturn, 1) := by decide +kernel
theorem dX4_begins_0 : decode cX4_begins 0 = .ok (.aload_n 0, 1) := by decide +kernel
theorem dX4_begins_1 : decode cX4_begins 1 = .ok (.getfield 38, 3) := by decide +kernel
theorem dX4_begins_4 : decode cX4_begins 4 = .ok (.iload_n 1, 1) := by decide +kernel
theorem dX4_begins_5 : decode cX4_begins 5 = .ok (.if_icmp .ne 20, 3) := by decide +kernel
theorem dX4_begins_8 : decode cX4_begins 8 = .ok (.aload_n 2, 1) := by decide +kernel
theorem dX4_begins_9 : decode cX4_begins 9 = .ok (.getfield 56, 3) := by decide +kernel
theorem dX4_begins_12 : decode cX4_begins 12 = .ok (.aload_n 2, 1) := by decide +kernel
theorem dX4_begins_13 : decode cX4_begins 13 = .ok (.getfield 80, 3) := by decide +kernel
theorem dX4_begins_16 : decode cX4_begins 16 = .ok (.if_icmp .lt 9, 3) := by decide +kernel
theorem dX4_begins_19 : decode cX4_begins 19 = .ok (.aload_n 0, 1) := by decide +kernel
theorem dX4_begins_20 : decode cX4_begins 20 = .ok (.iconst 3, 1) := by decide +kernel
theorem dX4_begins_21 : decode cX4_begins 21 = .ok (.invokevirtual 83, 3) := by decide +kernel
theorem dX4_begins_24 : decode cX4_begins 24 = .ok (.ireturn, 1) := by decide +kernel
theorem dX4_begins_25 : decode cX4_begins 25 = .ok (.aload_n 0, 1) := by decide +kernel
theorem dX4_begins_26 : decode cX4_begins 26 = .ok (.iload_n 1, 1) := by decide +kernel
theorem dX4_begins_27 : decode cX4_begins 27 = .ok (.invokevirtual 87, 3) := by decide +kernel
theorem dX4_begins_30 : decode cX4_begins 30 = .ok (.ireturn, 1) := by decide +kernel
theorem dX4_passesNumber_0 : decode cX4_passesNumber 0 = .ok (.aload_n 0, 1) := by decide +kernel
theorem dX4_passesNumber_1 : decode cX4_passesNumber 1 = .ok (.getfield 38, 3) := by decide +kernel
theorem dX4_passesNumber_4 : decode cX4_passesNumber 4 = .ok (.iconst 1, 1) := by decide +kernel
theorem dX4_passesNumber_5 : decode cX4_passesNumber 5 = .ok (.if_icmp .eq 5, 3) := by decide +kernel
theorem dX4_passesNumber_8 : decode cX4_passesNumber 8 = .ok (.iconst 0, 1) := by decide +kernel
theorem dX4_passesNumber_9 : decode cX4_passesNumber 9 = .ok (.ireturn, 1) := by decide +kernel
theorem dX4_passesNumber_10 : decode cX4_passesNumber 10 = .ok (.aload_n 0, 1) := by decide +kernel
theorem dX4_passesNumber_11 : decode cX4_passesNumber 11 = .ok (.aload_n 0, 1) := by decide +kernel
theorem dX4_passesNumber_12 : decode cX4_passesNumber 12 = .ok (.getfield 18, 3) := by decide +kernel
theorem dX4_passesNumber_15 : decode cX4_passesNumber 15 = .ok (.getfield 90, 3) := by decide +kernel
theorem dX4_passesNumber_18 : decode cX4_passesNumber 18 = .ok (.aload_n 0, 1) := by decide +kernel
theorem dX4_passesNumber_19 : decode cX4_passesNumber 19 = .ok (.getfield 29, 3) := by decide +kernel
theorem dX4_passesNumber_22 : decode cX4_passesNumber 22 = .ok (.iaload, 1) := by decide +kernel
theorem dX4_passesNumber_23 : decode cX4_passesNumber 23 = .ok (.putfield 93, 3) := by decide +kernel
theorem dX4_passesNumber_26 : decode cX4_passesNumber 26 = .ok (.aload_n 0, 1) := by decide +kernel
theorem dX4_passesNumber_27 : decode cX4_passesNumber 27 = .ok (.getfield 93, 3) := by decide +kernel
theorem dX4_passesNumber_30 : decode cX4_passesNumber 30 = .ok (.iload_n 1, 1) := by decide +kernel
theorem dX4_passesNumber_31 : decode cX4_passesNumber 31 = .ok (.if_icmp .lt 11, 3) := by decide +kernel
theorem dX4_passesNumber_34 : decode cX4_passesNumber 34 = .ok (.aload_n 0, 1) := by decide +kernel
theorem dX4_passesNumber_35 : decode cX4_passesNumber 35 = .ok (.getfield 93, 3) := by decide +kernel
theorem dX4_passesNumber_38 : decode cX4_passesNumber 38 = .ok (.iload_n 2, 1) := by decide +kernel
theorem dX4_passesNumber_39 : decode cX4_passesNumber 39 = .ok (.if_icmp .le 9, 3) := by decide +kernel
theorem dX4_passesNumber_42 : decode cX4_passesNumber 42 = .ok (.aload_n 0, 1) := by decide +kernel
theorem dX4_passesNumber_43 : decode cX4_passesNumber 43 = .ok (.iconst 2, 1) := by decide +kernel
theorem dX4_passesNumber_44 : decode cX4_passesNumber 44 = .ok (.invokevirtual 83, 3) := by decide +kernel
theorem dX4_passesNumber_47 : decode cX4_passesNumber 47 = .ok (.ireturn, 1) := by decide +kernel
theorem dX4_passesNumber_48 : decode cX4_passesNumber 48 = .ok (.aload_n 0, 1) := by decide +kernel
theorem dX4_passesNumber_49 : decode cX4_passesNumber 49 = .ok (.invokevirtual 77, 3) := by decide +kernel
theorem dX4_passesNumber_52 : decode cX4_passesNumber 52 = .ok (.iconst 1, 1) := by decide +kernel
theorem dX4_passesNumber_53 : decode cX4_passesNumber 53 = .ok (.ireturn, 1) := by decide +kernel
theorem dX4_passesField_0 : decode cX4_passesField 0 = .ok (.aload_n 0, 1) := by decide +kernel
theorem dX4_passesField_1 : decode cX4_passesField 1 = .ok (.getfield 38, 3) := by decide +kernel
theorem dX4_passesField_4 : decode cX4_passesField 4 = .ok (.iconst 1, 1) := by decide +kernel
theorem dX4_passesField_5 : decode cX4_passesField 5 = .ok (.if_icmp .ne 31, 3) := by decide +kernel
theorem dX4_passesField_8 : decode cX4_passesField 8 = .ok (.aload_n 0, 1) := by decide +kernel
theorem dX4_passesField_9 : decode cX4_passesField 9 = .ok (.getfield 22, 3) := by decide +kernel
theorem dX4_passesField_12 : decode cX4_passesField 12 = .ok (.aload_n 0, 1) := by decide +kernel
theorem dX4_passesField_13 : decode cX4_passesField 13 = .ok (.getfield 18, 3) := by decide +kernel
theorem dX4_passesField_16 : decode cX4_passesField 16 = .ok (.getfield 90, 3) := by decide +kernel
theorem dX4_passesField_19 : decode cX4_passesField 19 = .ok (.aload_n 0, 1) := by decide +kernel
theorem dX4_passesField_20 : decode cX4_passesField 20 = .ok (.getfield 29, 3) := by decide +kernel
theorem dX4_passesField_23 : decode cX4_passesField 23 = .ok (.iaload, 1) := by decide +kernel
theorem dX4_passesField_24 : decode cX4_passesField 24 = .ok (.invokevirtual 96, 3) := by decide +kernel
theorem dX4_passesField_27 : decode cX4_passesField 27 = .ok (.ifCond .ne 9, 3) := by decide +kernel
theorem dX4_passesField_30 : decode cX4_passesField 30 = .ok (.aload_n 0, 1) := by decide +kernel
theorem dX4_passesField_31 : decode cX4_passesField 31 = .ok (.iconst 2, 1) := by decide +kernel
theorem dX4_passesField_32 : decode cX4_passesField 32 = .ok (.invokevirtual 83, 3) := by decide +kernel
theorem dX4_passesField_35 : decode cX4_passesField 35 = .ok (.ireturn, 1) := by decide +kernel
theorem dX4_passesField_36 : decode cX4_passesField 36 = .ok (.aload_n 0, 1) := by decide +kernel
theorem dX4_passesField_37 : decode cX4_passesField 37 = .ok (.iconst 0, 1) := by decide +kernel
theorem dX4_passesField_38 : decode cX4_passesField 38 = .ok (.bipush 55, 2) := by decide +kernel
theorem dX4_passesField_40 : decode cX4_passesField 40 = .ok (.invokevirtual 99, 3) := by decide +kernel
theorem dX4_passesField_43 : decode cX4_passesField 43 = .ok (.ireturn, 1) := by decide +kernel
theorem dX4_passesPerson_0 : decode cX4_passesPerson 0 = .ok (.aload_n 0, 1) := by decide +kernel
theorem dX4_passesPerson_1 : decode cX4_passesPerson 1 = .ok (.getfield 38, 3) := by decide +kernel
theorem dX4_passesPerson_4 : decode cX4_passesPerson 4 = .ok (.iconst 1, 1) := by decide +kernel
theorem dX4_passesPerson_5 : decode cX4_passesPerson 5 = .ok (.if_icmp .ne 77, 3) := by decide +kernel
theorem dX4_passesPerson_8 : decode cX4_passesPerson 8 = .ok (.aload_n 0, 1) := by decide +kernel
theorem dX4_passesPerson_9 : decode cX4_passesPerson 9 = .ok (.getfield 18, 3) := by decide +kernel
theorem dX4_passesPerson_12 : decode cX4_passesPerson 12 = .ok (.getfield 90, 3) := by decide +kernel
theorem dX4_passesPerson_15 : decode cX4_passesPerson 15 = .ok (.aload_n 0, 1) := by decide +kernel
theorem dX4_passesPerson_16 : decode cX4_passesPerson 16 = .ok (.getfield 29, 3) := by decide +kernel
theorem dX4_passesPerson_19 : decode cX4_passesPerson 19 = .ok (.iaload, 1) := by decide +kernel
theorem dX4_passesPerson_20 : decode cX4_passesPerson 20 = .ok (.istore_n 2, 1) := by decide +kernel
theorem dX4_passesPerson_21 : decode cX4_passesPerson 21 = .ok (.aload_n 0, 1) := by decide +kernel
theorem dX4_passesPerson_22 : decode cX4_passesPerson 22 = .ok (.getfield 22, 3) := by decide +kernel
theorem dX4_passesPerson_25 : decode cX4_passesPerson 25 = .ok (.getfield 103, 3) := by decide +kernel
theorem dX4_passesPerson_28 : decode cX4_passesPerson 28 = .ok (.iload_n 2, 1) := by decide +kernel
theorem dX4_passesPerson_29 : decode cX4_passesPerson 29 = .ok (.invokevirtual 107, 3) := by decide +kernel
theorem dX4_passesPerson_32 : decode cX4_passesPerson 32 = .ok (.ifCond .eq 44, 3) := by decide +kernel
theorem dX4_passesPerson_35 : decode cX4_passesPerson 35 = .ok (.aload_n 0, 1) := by decide +kernel
theorem dX4_passesPerson_36 : decode cX4_passesPerson 36 = .ok (.getfield 22, 3) := by decide +kernel
theorem dX4_passesPerson_39 : decode cX4_passesPerson 39 = .ok (.getfield 103, 3) := by decide +kernel
theorem dX4_passesPerson_42 : decode cX4_passesPerson 42 = .ok (.iload_n 1, 1) := by decide +kernel
theorem dX4_passesPerson_43 : decode cX4_passesPerson 43 = .ok (.invokevirtual 107, 3) := by decide +kernel
theorem dX4_passesPerson_46 : decode cX4_passesPerson 46 = .ok (.ifCond .eq 36, 3) := by decide +kernel
theorem dX4_passesPerson_49 : decode cX4_passesPerson 49 = .ok (.aload_n 0, 1) := by decide +kernel
theorem dX4_passesPerson_50 : decode cX4_passesPerson 50 = .ok (.getfield 22, 3) := by decide +kernel
theorem dX4_passesPerson_53 : decode cX4_passesPerson 53 = .ok (.getfield 103, 3) := by decide +kernel
theorem dX4_passesPerson_56 : decode cX4_passesPerson 56 = .ok (.getfield 112, 3) := by decide +kernel
theorem dX4_passesPerson_59 : decode cX4_passesPerson 59 = .ok (.iload_n 2, 1) := by decide +kernel
theorem dX4_passesPerson_60 : decode cX4_passesPerson 60 = .ok (.iaload, 1) := by decide +kernel
theorem dX4_passesPerson_61 : decode cX4_passesPerson 61 = .ok (.aload_n 0, 1) := by decide +kernel
theorem dX4_passesPerson_62 : decode cX4_passesPerson 62 = .ok (.getfield 22, 3) := by decide +kernel
theorem dX4_passesPerson_65 : decode cX4_passesPerson 65 = .ok (.getfield 103, 3) := by decide +kernel
theorem dX4_passesPerson_68 : decode cX4_passesPerson 68 = .ok (.getfield 112, 3) := by decide +kernel
theorem dX4_passesPerson_71 : decode cX4_passesPerson 71 = .ok (.iload_n 1, 1) := by decide +kernel
theorem dX4_passesPerson_72 : decode cX4_passesPerson 72 = .ok (.iaload, 1) := by decide +kernel
theorem dX4_passesPerson_73 : decode cX4_passesPerson 73 = .ok (.if_icmp .ne 9, 3) := by decide +kernel
theorem dX4_passesPerson_76 : decode cX4_passesPerson 76 = .ok (.aload_n 0, 1) := by decide +kernel
theorem dX4_passesPerson_77 : decode cX4_passesPerson 77 = .ok (.iconst 2, 1) := by decide +kernel
theorem dX4_passesPerson_78 : decode cX4_passesPerson 78 = .ok (.invokevirtual 83, 3) := by decide +kernel
theorem dX4_passesPerson_81 : decode cX4_passesPerson 81 = .ok (.ireturn, 1) := by decide +kernel
theorem dX4_passesPerson_82 : decode cX4_passesPerson 82 = .ok (.aload_n 0, 1) := by decide +kernel
theorem dX4_passesPerson_83 : decode cX4_passesPerson 83 = .ok (.iconst 0, 1) := by decide +kernel
theorem dX4_passesPerson_84 : decode cX4_passesPerson 84 = .ok (.bipush 11, 2) := by decide +kernel
theorem dX4_passesPerson_86 : decode cX4_passesPerson 86 = .ok (.invokevirtual 99, 3) := by decide +kernel
theorem dX4_passesPerson_89 : decode cX4_passesPerson 89 = .ok (.ireturn, 1) := by decide +kernel
theorem dX4_vowLine_0 : decode cX4_vowLine 0 = .ok (.aload_n 0, 1) := by decide +kernel
theorem dX4_vowLine_1 : decode cX4_vowLine 1 = .ok (.bipush 20, 2) := by decide +kernel
theorem dX4_vowLine_3 : decode cX4_vowLine 3 = .ok (.aload_n 0, 1) := by decide +kernel
theorem dX4_vowLine_4 : decode cX4_vowLine 4 = .ok (.getfield 26, 3) := by decide +kernel
theorem dX4_vowLine_7 : decode cX4_vowLine 7 = .ok (.getfield 115, 3) := by decide +kernel
theorem dX4_vowLine_10 : decode cX4_vowLine 10 = .ok (.invokevirtual 119, 3) := by decide +kernel
theorem dX4_vowLine_13 : decode cX4_vowLine 13 = .ok (.ifCond .eq 14, 3) := by decide +kernel
theorem dX4_vowLine_16 : decode cX4_vowLine 16 = .ok (.aload_n 0, 1) := by decide +kernel
theorem dX4_vowLine_17 : decode cX4_vowLine 17 = .ok (.iconst 0, 1) := by decide +kernel
theorem dX4_vowLine_18 : decode cX4_vowLine 18 = .ok (.sipush 999, 3) := by decide +kernel
theorem dX4_vowLine_21 : decode cX4_vowLine 21 = .ok (.invokevirtual 99, 3) := by decide +kernel
theorem dX4_vowLine_24 : decode cX4_vowLine 24 = .ok (.ifCond .ne 5, 3) := by decide +kernel
theorem dX4_vowLine_27 : decode cX4_vowLine 27 = .ok (.iconst 0, 1) := by decide +kernel
theorem dX4_vowLine_28 : decode cX4_vowLine 28 = .ok (.ireturn, 1) := by decide +kernel
theorem dX4_vowLine_29 : decode cX4_vowLine 29 = .ok (.aload_n 0, 1) := by decide +kernel
theorem dX4_vowLine_30 : decode cX4_vowLine 30 = .ok (.getfield 93, 3) := by decide +kernel
theorem dX4_vowLine_33 : decode cX4_vowLine 33 = .ok (.istore_n 1, 1) := by decide +kernel
theorem dX4_vowLine_34 : decode cX4_vowLine 34 = .ok (.aload_n 0, 1) := by decide +kernel
theorem dX4_vowLine_35 : decode cX4_vowLine 35 = .ok (.iconst (-1), 1) := by decide +kernel
theorem dX4_vowLine_36 : decode cX4_vowLine 36 = .ok (.invokevirtual 123, 3) := by decide +kernel
theorem dX4_vowLine_39 : decode cX4_vowLine 39 = .ok (.ifCond .ne 5, 3) := by decide +kernel
theorem dX4_vowLine_42 : decode cX4_vowLine 42 = .ok (.iconst 0, 1) := by decide +kernel
theorem dX4_vowLine_43 : decode cX4_vowLine 43 = .ok (.ireturn, 1) := by decide +kernel
theorem dX4_vowLine_44 : decode cX4_vowLine 44 = .ok (.aload_n 0, 1) := by decide +kernel
theorem dX4_vowLine_45 : decode cX4_vowLine 45 = .ok (.getfield 93, 3) := by decide +kernel
theorem dX4_vowLine_48 : decode cX4_vowLine 48 = .ok (.istore_n 2, 1) := by decide +kernel
theorem dX4_vowLine_49 : decode cX4_vowLine 49 = .ok (.aload_n 0, 1) := by decide +kernel
theorem dX4_vowLine_50 : decode cX4_vowLine 50 = .ok (.bipush 8, 2) := by decide +kernel
theorem dX4_vowLine_52 : decode cX4_vowLine 52 = .ok (.invokevirtual 87, 3) := by decide +kernel
theorem dX4_vowLine_55 : decode cX4_vowLine 55 = .ok (.ifCond .eq 11, 3) := by decide +kernel
theorem dX4_vowLine_58 : decode cX4_vowLine 58 = .ok (.aload_n 0, 1) := by decide +kernel
theorem dX4_vowLine_59 : decode cX4_vowLine 59 = .ok (.iload_n 2, 1) := by decide +kernel
theorem dX4_vowLine_60 : decode cX4_vowLine 60 = .ok (.invokevirtual 123, 3) := by decide +kernel
theorem dX4_vowLine_63 : decode cX4_vowLine 63 = .ok (.ifCond .ne 5, 3) := by decide +kernel
theorem dX4_vowLine_66 : decode cX4_vowLine 66 = .ok (.iconst 0, 1) := by decide +kernel
theorem dX4_vowLine_67 : decode cX4_vowLine 67 = .ok (.ireturn, 1) := by decide +kernel
theorem dX4_vowLine_68 : decode cX4_vowLine 68 = .ok (.aload_n 0, 1) := by decide +kernel
theorem dX4_vowLine_69 : decode cX4_vowLine 69 = .ok (.getfield 93, 3) := by decide +kernel
theorem dX4_vowLine_72 : decode cX4_vowLine 72 = .ok (.istore_n 3, 1) := by decide +kernel
theorem dX4_vowLine_73 : decode cX4_vowLine 73 = .ok (.aload_n 0, 1) := by decide +kernel
theorem dX4_vowLine_74 : decode cX4_vowLine 74 = .ok (.bipush 21, 2) := by decide +kernel
theorem dX4_vowLine_76 : decode cX4_vowLine 76 = .ok (.invokevirtual 87, 3) := by decide +kernel
theorem dX4_vowLine_79 : decode cX4_vowLine 79 = .ok (.ifCond .eq 10, 3) := by decide +kernel
theorem dX4_vowLine_82 : decode cX4_vowLine 82 = .ok (.aload_n 0, 1) := by decide +kernel
theorem dX4_vowLine_83 : decode cX4_vowLine 83 = .ok (.invokevirtual 126, 3) := by decide +kernel
theorem dX4_vowLine_86 : decode cX4_vowLine 86 = .ok (.ifCond .ne 5, 3) := by decide +kernel
theorem dX4_vowLine_89 : decode cX4_vowLine 89 = .ok (.iconst 0, 1) := by decide +kernel
theorem dX4_vowLine_90 : decode cX4_vowLine 90 = .ok (.ireturn, 1) := by decide +kernel
theorem dX4_vowLine_91 : decode cX4_vowLine 91 = .ok (.aload_n 0, 1) := by decide +kernel
theorem dX4_vowLine_92 : decode cX4_vowLine 92 = .ok (.getfield 93, 3) := by decide +kernel
theorem dX4_vowLine_95 : decode cX4_vowLine 95 = .ok (.istore 4, 2) := by decide +kernel
theorem dX4_vowLine_97 : decode cX4_vowLine 97 = .ok (.aload_n 0, 1) := by decide +kernel
theorem dX4_vowLine_98 : decode cX4_vowLine 98 = .ok (.bipush 59, 2) := by decide +kernel
theorem dX4_vowLine_100 : decode cX4_vowLine 100 = .ok (.invokevirtual 87, 3) := by decide +kernel
theorem dX4_vowLine_103 : decode cX4_vowLine 103 = .ok (.ifCond .eq 25, 3) := by decide +kernel
theorem dX4_vowLine_106 : decode cX4_vowLine 106 = .ok (.aload_n 0, 1) := by decide +kernel
theorem dX4_vowLine_107 : decode cX4_vowLine 107 = .ok (.getfield 26, 3) := by decide +kernel
theorem dX4_vowLine_110 : decode cX4_vowLine 110 = .ok (.getfield 115, 3) := by decide +kernel
theorem dX4_vowLine_113 : decode cX4_vowLine 113 = .ok (.iload_n 1, 1) := by decide +kernel
theorem dX4_vowLine_114 : decode cX4_vowLine 114 = .ok (.iload_n 2, 1) := by decide +kernel
theorem dX4_vowLine_115 : decode cX4_vowLine 115 = .ok (.iload_n 3, 1) := by decide +kernel
theorem dX4_vowLine_116 : decode cX4_vowLine 116 = .ok (.iload 4, 2) := by decide +kernel
theorem dX4_vowLine_118 : decode cX4_vowLine 118 = .ok (.invokevirtual 129, 3) := by decide +kernel
theorem dX4_vowLine_121 : decode cX4_vowLine 121 = .ok (.ifCond .eq 7, 3) := by decide +kernel
theorem dX4_vowLine_124 : decode cX4_vowLine 124 = .ok (.iconst 1, 1) := by decide +kernel
theorem dX4_vowLine_125 : decode cX4_vowLine 125 = .ok (.goto 4, 3) := by decide +kernel
theorem dX4_vowLine_128 : decode cX4_vowLine 128 = .ok (.iconst 0, 1) := by decide +kernel
theorem dX4_vowLine_129 : decode cX4_vowLine 129 = .ok (.ireturn, 1) := by decide +kernel
theorem dX4_weatherLine_0 : decode cX4_weatherLine 0 = .ok (.aload_n 0, 1) := by decide +kernel
theorem dX4_weatherLine_1 : decode cX4_weatherLine 1 = .ok (.bipush 22, 2) := by decide +kernel
theorem dX4_weatherLine_3 : decode cX4_weatherLine 3 = .ok (.aload_n 0, 1) := by decide +kernel
theorem dX4_weatherLine_4 : decode cX4_weatherLine 4 = .ok (.getfield 26, 3) := by decide +kernel
theorem dX4_weatherLine_7 : decode cX4_weatherLine 7 = .ok (.getfield 133, 3) := by decide +kernel
theorem dX4_weatherLine_10 : decode cX4_weatherLine 10 = .ok (.invokevirtual 119, 3) := by decide +kernel
theorem dX4_weatherLine_13 : decode cX4_weatherLine 13 = .ok (.ifCond .eq 13, 3) := by decide +kernel
theorem dX4_weatherLine_16 : decode cX4_weatherLine 16 = .ok (.aload_n 0, 1) := by decide +kernel
theorem dX4_weatherLine_17 : decode cX4_weatherLine 17 = .ok (.iconst 1, 1) := by decide +kernel
theorem dX4_weatherLine_18 : decode cX4_weatherLine 18 = .ok (.bipush 60, 2) := by decide +kernel
theorem dX4_weatherLine_20 : decode cX4_weatherLine 20 = .ok (.invokevirtual 99, 3) := by decide +kernel
theorem dX4_weatherLine_23 : decode cX4_weatherLine 23 = .ok (.ifCond .ne 5, 3) := by decide +kernel
theorem dX4_weatherLine_26 : decode cX4_weatherLine 26 = .ok (.iconst 0, 1) := by decide +kernel
theorem dX4_weatherLine_27 : decode cX4_weatherLine 27 = .ok (.ireturn, 1) := by decide +kernel
theorem dX4_weatherLine_28 : decode cX4_weatherLine 28 = .ok (.aload_n 0, 1) := by decide +kernel
theorem dX4_weatherLine_29 : decode cX4_weatherLine 29 = .ok (.getfield 93, 3) := by decide +kernel
theorem dX4_weatherLine_32 : decode cX4_weatherLine 32 = .ok (.istore_n 1, 1) := by decide +kernel
theorem dX4_weatherLine_33 : decode cX4_weatherLine 33 = .ok (.aload_n 0, 1) := by decide +kernel
theorem dX4_weatherLine_34 : decode cX4_weatherLine 34 = .ok (.bipush 17, 2) := by decide +kernel
theorem dX4_weatherLine_36 : decode cX4_weatherLine 36 = .ok (.invokevirtual 87, 3) := by decide +kernel
theorem dX4_weatherLine_39 : decode cX4_weatherLine 39 = .ok (.ifCond .eq 13, 3) := by decide +kernel
theorem dX4_weatherLine_42 : decode cX4_weatherLine 42 = .ok (.aload_n 0, 1) := by decide +kernel
theorem dX4_weatherLine_43 : decode cX4_weatherLine 43 = .ok (.iconst 0, 1) := by decide +kernel
theorem dX4_weatherLine_44 : decode cX4_weatherLine 44 = .ok (.bipush 30, 2) := by decide +kernel
theorem dX4_weatherLine_46 : decode cX4_weatherLine 46 = .ok (.invokevirtual 99, 3) := by decide +kernel
theorem dX4_weatherLine_49 : decode cX4_weatherLine 49 = .ok (.ifCond .ne 5, 3) := by decide +kernel
theorem dX4_weatherLine_52 : decode cX4_weatherLine 52 = .ok (.iconst 0, 1) := by decide +kernel
theorem dX4_weatherLine_53 : decode cX4_weatherLine 53 = .ok (.ireturn, 1) := by decide +kernel
theorem dX4_weatherLine_54 : decode cX4_weatherLine 54 = .ok (.aload_n 0, 1) := by decide +kernel
theorem dX4_weatherLine_55 : decode cX4_weatherLine 55 = .ok (.getfield 93, 3) := by decide +kernel
theorem dX4_weatherLine_58 : decode cX4_weatherLine 58 = .ok (.istore_n 2, 1) := by decide +kernel
theorem dX4_weatherLine_59 : decode cX4_weatherLine 59 = .ok (.aload_n 0, 1) := by decide +kernel
theorem dX4_weatherLine_60 : decode cX4_weatherLine 60 = .ok (.bipush 59, 2) := by decide +kernel
theorem dX4_weatherLine_62 : decode cX4_weatherLine 62 = .ok (.invokevirtual 87, 3) := by decide +kernel
theorem dX4_weatherLine_65 : decode cX4_weatherLine 65 = .ok (.ifCond .eq 24, 3) := by decide +kernel
theorem dX4_weatherLine_68 : decode cX4_weatherLine 68 = .ok (.aload_n 0, 1) := by decide +kernel
theorem dX4_weatherLine_69 : decode cX4_weatherLine 69 = .ok (.getfield 26, 3) := by decide +kernel
theorem dX4_weatherLine_72 : decode cX4_weatherLine 72 = .ok (.getfield 133, 3) := by decide +kernel
theorem dX4_weatherLine_75 : decode cX4_weatherLine 75 = .ok (.iload_n 1, 1) := by decide +kernel
theorem dX4_weatherLine_76 : decode cX4_weatherLine 76 = .ok (.iload_n 2, 1) := by decide +kernel
theorem dX4_weatherLine_77 : decode cX4_weatherLine 77 = .ok (.iconst 0, 1) := by decide +kernel
theorem dX4_weatherLine_78 : decode cX4_weatherLine 78 = .ok (.iconst 0, 1) := by decide +kernel
theorem dX4_weatherLine_79 : decode cX4_weatherLine 79 = .ok (.invokevirtual 129, 3) := by decide +kernel
theorem dX4_weatherLine_82 : decode cX4_weatherLine 82 = .ok (.ifCond .eq 7, 3) := by decide +kernel
theorem dX4_weatherLine_85 : decode cX4_weatherLine 85 = .ok (.iconst 1, 1) := by decide +kernel
theorem dX4_weatherLine_86 : decode cX4_weatherLine 86 = .ok (.goto 4, 3) := by decide +kernel
theorem dX4_weatherLine_89 : decode cX4_weatherLine 89 = .ok (.iconst 0, 1) := by decide +kernel
theorem dX4_weatherLine_90 : decode cX4_weatherLine 90 = .ok (.ireturn, 1) := by decide +kernel
theorem dX4_wantLine_0 : decode cX4_wantLine 0 = .ok (.aload_n 0, 1) := by decide +kernel
theorem dX4_wantLine_1 : decode cX4_wantLine 1 = .ok (.bipush 23, 2) := by decide +kernel
theorem dX4_wantLine_3 : decode cX4_wantLine 3 = .ok (.aload_n 0, 1) := by decide +kernel
theorem dX4_wantLine_4 : decode cX4_wantLine 4 = .ok (.getfield 26, 3) := by decide +kernel
theorem dX4_wantLine_7 : decode cX4_wantLine 7 = .ok (.getfield 136, 3) := by decide +kernel
theorem dX4_wantLine_10 : decode cX4_wantLine 10 = .ok (.invokevirtual 119, 3) := by decide +kernel
theorem dX4_wantLine_13 : decode cX4_wantLine 13 = .ok (.ifCond .eq 10, 3) := by decide +kernel
theorem dX4_wantLine_16 : decode cX4_wantLine 16 = .ok (.aload_n 0, 1) := by decide +kernel
theorem dX4_wantLine_17 : decode cX4_wantLine 17 = .ok (.invokevirtual 126, 3) := by decide +kernel
theorem dX4_wantLine_20 : decode cX4_wantLine 20 = .ok (.ifCond .ne 5, 3) := by decide +kernel
theorem dX4_wantLine_23 : decode cX4_wantLine 23 = .ok (.iconst 0, 1) := by decide +kernel
theorem dX4_wantLine_24 : decode cX4_wantLine 24 = .ok (.ireturn, 1) := by decide +kernel
theorem dX4_wantLine_25 : decode cX4_wantLine 25 = .ok (.aload_n 0, 1) := by decide +kernel
theorem dX4_wantLine_26 : decode cX4_wantLine 26 = .ok (.getfield 93, 3) := by decide +kernel
theorem dX4_wantLine_29 : decode cX4_wantLine 29 = .ok (.istore_n 1, 1) := by decide +kernel
theorem dX4_wantLine_30 : decode cX4_wantLine 30 = .ok (.aload_n 0, 1) := by decide +kernel
theorem dX4_wantLine_31 : decode cX4_wantLine 31 = .ok (.bipush 20, 2) := by decide +kernel
theorem dX4_wantLine_33 : decode cX4_wantLine 33 = .ok (.invokevirtual 87, 3) := by decide +kernel
theorem dX4_wantLine_36 : decode cX4_wantLine 36 = .ok (.ifCond .eq 14, 3) := by decide +kernel
theorem dX4_wantLine_39 : decode cX4_wantLine 39 = .ok (.aload_n 0, 1) := by decide +kernel
theorem dX4_wantLine_40 : decode cX4_wantLine 40 = .ok (.iconst 0, 1) := by decide +kernel
theorem dX4_wantLine_41 : decode cX4_wantLine 41 = .ok (.sipush 999, 3) := by decide +kernel
theorem dX4_wantLine_44 : decode cX4_wantLine 44 = .ok (.invokevirtual 99, 3) := by decide +kernel
theorem dX4_wantLine_47 : decode cX4_wantLine 47 = .ok (.ifCond .ne 5, 3) := by decide +kernel
theorem dX4_wantLine_50 : decode cX4_wantLine 50 = .ok (.iconst 0, 1) := by decide +kernel
theorem dX4_wantLine_51 : decode cX4_wantLine 51 = .ok (.ireturn, 1) := by decide +kernel
theorem dX4_wantLine_52 : decode cX4_wantLine 52 = .ok (.aload_n 0, 1) := by decide +kernel
theorem dX4_wantLine_53 : decode cX4_wantLine 53 = .ok (.getfield 93, 3) := by decide +kernel
theorem dX4_wantLine_56 : decode cX4_wantLine 56 = .ok (.istore_n 2, 1) := by decide +kernel
theorem dX4_wantLine_57 : decode cX4_wantLine 57 = .ok (.aload_n 0, 1) := by decide +kernel
theorem dX4_wantLine_58 : decode cX4_wantLine 58 = .ok (.bipush 24, 2) := by decide +kernel
theorem dX4_wantLine_60 : decode cX4_wantLine 60 = .ok (.invokevirtual 87, 3) := by decide +kernel
theorem dX4_wantLine_63 : decode cX4_wantLine 63 = .ok (.ifCond .eq 13, 3) := by decide +kernel
theorem dX4_wantLine_66 : decode cX4_wantLine 66 = .ok (.aload_n 0, 1) := by decide +kernel
theorem dX4_wantLine_67 : decode cX4_wantLine 67 = .ok (.iconst 1, 1) := by decide +kernel
theorem dX4_wantLine_68 : decode cX4_wantLine 68 = .ok (.bipush 99, 2) := by decide +kernel
theorem dX4_wantLine_70 : decode cX4_wantLine 70 = .ok (.invokevirtual 99, 3) := by decide +kernel
theorem dX4_wantLine_73 : decode cX4_wantLine 73 = .ok (.ifCond .ne 5, 3) := by decide +kernel
theorem dX4_wantLine_76 : decode cX4_wantLine 76 = .ok (.iconst 0, 1) := by decide +kernel
theorem dX4_wantLine_77 : decode cX4_wantLine 77 = .ok (.ireturn, 1) := by decide +kernel
theorem dX4_wantLine_78 : decode cX4_wantLine 78 = .ok (.aload_n 0, 1) := by decide +kernel
theorem dX4_wantLine_79 : decode cX4_wantLine 79 = .ok (.getfield 93, 3) := by decide +kernel
theorem dX4_wantLine_82 : decode cX4_wantLine 82 = .ok (.istore_n 3, 1) := by decide +kernel
theorem dX4_wantLine_83 : decode cX4_wantLine 83 = .ok (.aload_n 0, 1) := by decide +kernel
theorem dX4_wantLine_84 : decode cX4_wantLine 84 = .ok (.bipush 59, 2) := by decide +kernel
theorem dX4_wantLine_86 : decode cX4_wantLine 86 = .ok (.invokevirtual 87, 3) := by decide +kernel
theorem dX4_wantLine_89 : decode cX4_wantLine 89 = .ok (.ifCond .eq 24, 3) := by decide +kernel
theorem dX4_wantLine_92 : decode cX4_wantLine 92 = .ok (.aload_n 0, 1) := by decide +kernel
theorem dX4_wantLine_93 : decode cX4_wantLine 93 = .ok (.getfield 26, 3) := by decide +kernel
theorem dX4_wantLine_96 : decode cX4_wantLine 96 = .ok (.getfield 136, 3) := by decide +kernel
theorem dX4_wantLine_99 : decode cX4_wantLine 99 = .ok (.iload_n 1, 1) := by decide +kernel
theorem dX4_wantLine_100 : decode cX4_wantLine 100 = .ok (.iload_n 2, 1) := by decide +kernel
theorem dX4_wantLine_101 : decode cX4_wantLine 101 = .ok (.iload_n 3, 1) := by decide +kernel
theorem dX4_wantLine_102 : decode cX4_wantLine 102 = .ok (.iconst 0, 1) := by decide +kernel
theorem dX4_wantLine_103 : decode cX4_wantLine 103 = .ok (.invokevirtual 129, 3) := by decide +kernel
theorem dX4_wantLine_106 : decode cX4_wantLine 106 = .ok (.ifCond .eq 7, 3) := by decide +kernel
theorem dX4_wantLine_109 : decode cX4_wantLine 109 = .ok (.iconst 1, 1) := by decide +kernel
theorem dX4_wantLine_110 : decode cX4_wantLine 110 = .ok (.goto 4, 3) := by decide +kernel
theorem dX4_wantLine_113 : decode cX4_wantLine 113 = .ok (.iconst 0, 1) := by decide +kernel
theorem dX4_wantLine_114 : decode cX4_wantLine 114 = .ok (.ireturn, 1) := by decide +kernel
theorem dX4_lawLine_0 : decode cX4_lawLine 0 = .ok (.aload_n 0, 1) := by decide +kernel
theorem dX4_lawLine_1 : decode cX4_lawLine 1 = .ok (.getfield 26, 3) := by decide +kernel
theorem dX4_lawLine_4 : decode cX4_lawLine 4 = .ok (.getfield 41, 3) := by decide +kernel
theorem dX4_lawLine_7 : decode cX4_lawLine 7 = .ok (.astore_n 1, 1) := by decide +kernel
theorem dX4_lawLine_8 : decode cX4_lawLine 8 = .ok (.aload_n 0, 1) := by decide +kernel
theorem dX4_lawLine_9 : decode cX4_lawLine 9 = .ok (.getfield 38, 3) := by decide +kernel
theorem dX4_lawLine_12 : decode cX4_lawLine 12 = .ok (.iconst 3, 1) := by decide +kernel
theorem dX4_lawLine_13 : decode cX4_lawLine 13 = .ok (.if_icmp .eq 21, 3) := by decide +kernel
theorem dX4_lawLine_16 : decode cX4_lawLine 16 = .ok (.aload_n 0, 1) := by decide +kernel
theorem dX4_lawLine_17 : decode cX4_lawLine 17 = .ok (.getfield 38, 3) := by decide +kernel
theorem dX4_lawLine_20 : decode cX4_lawLine 20 = .ok (.iconst 4, 1) := by decide +kernel
theorem dX4_lawLine_21 : decode cX4_lawLine 21 = .ok (.if_icmp .eq 13, 3) := by decide +kernel
theorem dX4_lawLine_24 : decode cX4_lawLine 24 = .ok (.aload_n 0, 1) := by decide +kernel
theorem dX4_lawLine_25 : decode cX4_lawLine 25 = .ok (.getfield 38, 3) := by decide +kernel
theorem dX4_lawLine_28 : decode cX4_lawLine 28 = .ok (.iconst 5, 1) := by decide +kernel
theorem dX4_lawLine_29 : decode cX4_lawLine 29 = .ok (.if_icmp .eq 5, 3) := by decide +kernel
theorem dX4_lawLine_32 : decode cX4_lawLine 32 = .ok (.iconst 0, 1) := by decide +kernel
theorem dX4_lawLine_33 : decode cX4_lawLine 33 = .ok (.ireturn, 1) := by decide +kernel
theorem dX4_lawLine_34 : decode cX4_lawLine 34 = .ok (.aload_n 1, 1) := by decide +kernel
theorem dX4_lawLine_35 : decode cX4_lawLine 35 = .ok (.getfield 139, 3) := by decide +kernel
theorem dX4_lawLine_38 : decode cX4_lawLine 38 = .ok (.istore_n 2, 1) := by decide +kernel
theorem dX4_lawLine_39 : decode cX4_lawLine 39 = .ok (.iload_n 2, 1) := by decide +kernel
theorem dX4_lawLine_40 : decode cX4_lawLine 40 = .ok (.bipush 16, 2) := by decide +kernel
theorem dX4_lawLine_42 : decode cX4_lawLine 42 = .ok (.if_icmp .lt 9, 3) := by decide +kernel
theorem dX4_lawLine_45 : decode cX4_lawLine 45 = .ok (.aload_n 0, 1) := by decide +kernel
theorem dX4_lawLine_46 : decode cX4_lawLine 46 = .ok (.iconst 3, 1) := by decide +kernel
theorem dX4_lawLine_47 : decode cX4_lawLine 47 = .ok (.invokevirtual 83, 3) := by decide +kernel
theorem dX4_lawLine_50 : decode cX4_lawLine 50 = .ok (.ireturn, 1) := by decide +kernel
theorem dX4_lawLine_51 : decode cX4_lawLine 51 = .ok (.aload_n 1, 1) := by decide +kernel
theorem dX4_lawLine_52 : decode cX4_lawLine 52 = .ok (.getfield 140, 3) := by decide +kernel
theorem dX4_lawLine_55 : decode cX4_lawLine 55 = .ok (.iload_n 2, 1) := by decide +kernel
theorem dX4_lawLine_56 : decode cX4_lawLine 56 = .ok (.aload_n 0, 1) := by decide +kernel
theorem dX4_lawLine_57 : decode cX4_lawLine 57 = .ok (.getfield 38, 3) := by decide +kernel
theorem dX4_lawLine_60 : decode cX4_lawLine 60 = .ok (.iastore, 1) := by decide +kernel
theorem dX4_lawLine_61 : decode cX4_lawLine 61 = .ok (.aload_n 0, 1) := by decide +kernel
theorem dX4_lawLine_62 : decode cX4_lawLine 62 = .ok (.invokevirtual 77, 3) := by decide +kernel
theorem dX4_lawLine_65 : decode cX4_lawLine 65 = .ok (.aload_n 0, 1) := by decide +kernel
theorem dX4_lawLine_66 : decode cX4_lawLine 66 = .ok (.invokevirtual 143, 3) := by decide +kernel
theorem dX4_lawLine_69 : decode cX4_lawLine 69 = .ok (.ifCond .ne 5, 3) := by decide +kernel
theorem dX4_lawLine_72 : decode cX4_lawLine 72 = .ok (.iconst 0, 1) := by decide +kernel
theorem dX4_lawLine_73 : decode cX4_lawLine 73 = .ok (.ireturn, 1) := by decide +kernel
theorem dX4_lawLine_74 : decode cX4_lawLine 74 = .ok (.aload_n 1, 1) := by decide +kernel
theorem dX4_lawLine_75 : decode cX4_lawLine 75 = .ok (.getfield 146, 3) := by decide +kernel
theorem dX4_lawLine_78 : decode cX4_lawLine 78 = .ok (.iload_n 2, 1) := by decide +kernel
theorem dX4_lawLine_79 : decode cX4_lawLine 79 = .ok (.aload_n 1, 1) := by decide +kernel
theorem dX4_lawLine_80 : decode cX4_lawLine 80 = .ok (.getfield 149, 3) := by decide +kernel
theorem dX4_lawLine_83 : decode cX4_lawLine 83 = .ok (.iastore, 1) := by decide +kernel
theorem dX4_lawLine_84 : decode cX4_lawLine 84 = .ok (.aload_n 0, 1) := by decide +kernel
theorem dX4_lawLine_85 : decode cX4_lawLine 85 = .ok (.getfield 38, 3) := by decide +kernel
theorem dX4_lawLine_88 : decode cX4_lawLine 88 = .ok (.bipush 6, 2) := by decide +kernel
theorem dX4_lawLine_90 : decode cX4_lawLine 90 = .ok (.if_icmp .ne 17, 3) := by decide +kernel
theorem dX4_lawLine_93 : decode cX4_lawLine 93 = .ok (.aload_n 0, 1) := by decide +kernel
theorem dX4_lawLine_94 : decode cX4_lawLine 94 = .ok (.invokevirtual 77, 3) := by decide +kernel
theorem dX4_lawLine_97 : decode cX4_lawLine 97 = .ok (.aload_n 0, 1) := by decide +kernel
theorem dX4_lawLine_98 : decode cX4_lawLine 98 = .ok (.iconst 0, 1) := by decide +kernel
theorem dX4_lawLine_99 : decode cX4_lawLine 99 = .ok (.invokevirtual 152, 3) := by decide +kernel
theorem dX4_lawLine_102 : decode cX4_lawLine 102 = .ok (.ifCond .ne 5, 3) := by decide +kernel
theorem dX4_lawLine_105 : decode cX4_lawLine 105 = .ok (.iconst 0, 1) := by decide +kernel
theorem dX4_lawLine_106 : decode cX4_lawLine 106 = .ok (.ireturn, 1) := by decide +kernel
theorem dX4_lawLine_107 : decode cX4_lawLine 107 = .ok (.aload_n 1, 1) := by decide +kernel
theorem dX4_lawLine_108 : decode cX4_lawLine 108 = .ok (.getfield 155, 3) := by decide +kernel
theorem dX4_lawLine_111 : decode cX4_lawLine 111 = .ok (.iload_n 2, 1) := by decide +kernel
theorem dX4_lawLine_112 : decode cX4_lawLine 112 = .ok (.iconst 1, 1) := by decide +kernel
theorem dX4_lawLine_113 : decode cX4_lawLine 113 = .ok (.iadd, 1) := by decide +kernel
theorem dX4_lawLine_114 : decode cX4_lawLine 114 = .ok (.aload_n 1, 1) := by decide +kernel
theorem dX4_lawLine_115 : decode cX4_lawLine 115 = .ok (.getfield 149, 3) := by decide +kernel
theorem dX4_lawLine_118 : decode cX4_lawLine 118 = .ok (.iastore, 1) := by decide +kernel
theorem dX4_lawLine_119 : decode cX4_lawLine 119 = .ok (.aload_n 1, 1) := by decide +kernel
theorem dX4_lawLine_120 : decode cX4_lawLine 120 = .ok (.iload_n 2, 1) := by decide +kernel
theorem dX4_lawLine_121 : decode cX4_lawLine 121 = .ok (.iconst 1, 1) := by decide +kernel
theorem dX4_lawLine_122 : decode cX4_lawLine 122 = .ok (.iadd, 1) := by decide +kernel
theorem dX4_lawLine_123 : decode cX4_lawLine 123 = .ok (.putfield 139, 3) := by decide +kernel
theorem dX4_lawLine_126 : decode cX4_lawLine 126 = .ok (.aload_n 0, 1) := by decide +kernel
theorem dX4_lawLine_127 : decode cX4_lawLine 127 = .ok (.bipush 59, 2) := by decide +kernel
theorem dX4_lawLine_129 : decode cX4_lawLine 129 = .ok (.invokevirtual 87, 3) := by decide +kernel
theorem dX4_lawLine_132 : decode cX4_lawLine 132 = .ok (.ireturn, 1) := by decide +kernel
theorem dX4_readsEither_0 : decode cX4_readsEither 0 = .ok (.iconst 0, 1) := by decide +kernel
theorem dX4_readsEither_1 : decode cX4_readsEither 1 = .ok (.istore_n 2, 1) := by decide +kernel
theorem dX4_readsEither_2 : decode cX4_readsEither 2 = .ok (.iconst 0, 1) := by decide +kernel
theorem dX4_readsEither_3 : decode cX4_readsEither 3 = .ok (.istore_n 3, 1) := by decide +kernel
theorem dX4_readsEither_4 : decode cX4_readsEither 4 = .ok (.iconst 0, 1) := by decide +kernel
theorem dX4_readsEither_5 : decode cX4_readsEither 5 = .ok (.istore 4, 2) := by decide +kernel
theorem dX4_readsEither_7 : decode cX4_readsEither 7 = .ok (.iload 4, 2) := by decide +kernel
theorem dX4_readsEither_9 : decode cX4_readsEither 9 = .ok (.sipush 400, 3) := by decide +kernel
theorem dX4_readsEither_12 : decode cX4_readsEither 12 = .ok (.if_icmp .gt 105, 3) := by decide +kernel
theorem dX4_readsEither_15 : decode cX4_readsEither 15 = .ok (.aload_n 0, 1) := by decide +kernel
theorem dX4_readsEither_16 : decode cX4_readsEither 16 = .ok (.iload_n 1, 1) := by decide +kernel
theorem dX4_readsEither_17 : decode cX4_readsEither 17 = .ok (.invokevirtual 158, 3) := by decide +kernel
theorem dX4_readsEither_20 : decode cX4_readsEither 20 = .ok (.ifCond .ne 5, 3) := by decide +kernel
theorem dX4_readsEither_23 : decode cX4_readsEither 23 = .ok (.iconst 0, 1) := by decide +kernel
theorem dX4_readsEither_24 : decode cX4_readsEither 24 = .ok (.ireturn, 1) := by decide +kernel
theorem dX4_readsEither_25 : decode cX4_readsEither 25 = .ok (.iload_n 2, 1) := by decide +kernel
theorem dX4_readsEither_26 : decode cX4_readsEither 26 = .ok (.ifCond .eq 18, 3) := by decide +kernel
theorem dX4_readsEither_29 : decode cX4_readsEither 29 = .ok (.aload_n 0, 1) := by decide +kernel
theorem dX4_readsEither_30 : decode cX4_readsEither 30 = .ok (.getfield 26, 3) := by decide +kernel
theorem dX4_readsEither_33 : decode cX4_readsEither 33 = .ok (.getfield 41, 3) := by decide +kernel
theorem dX4_readsEither_36 : decode cX4_readsEither 36 = .ok (.bipush 8, 2) := by decide +kernel
theorem dX4_readsEither_38 : decode cX4_readsEither 38 = .ok (.invokestatic 161, 3) := by decide +kernel
theorem dX4_readsEither_41 : decode cX4_readsEither 41 = .ok (.invokevirtual 165, 3) := by decide +kernel
theorem dX4_readsEither_44 : decode cX4_readsEither 44 = .ok (.aload_n 0, 1) := by decide +kernel
theorem dX4_readsEither_45 : decode cX4_readsEither 45 = .ok (.getfield 38, 3) := by decide +kernel
theorem dX4_readsEither_48 : decode cX4_readsEither 48 = .ok (.bipush 8, 2) := by decide +kernel
theorem dX4_readsEither_50 : decode cX4_readsEither 50 = .ok (.if_icmp .ne 7, 3) := by decide +kernel
theorem dX4_readsEither_53 : decode cX4_readsEither 53 = .ok (.iconst 1, 1) := by decide +kernel
theorem dX4_readsEither_54 : decode cX4_readsEither 54 = .ok (.goto 4, 3) := by decide +kernel
theorem dX4_readsEither_57 : decode cX4_readsEither 57 = .ok (.iconst 0, 1) := by decide +kernel
theorem dX4_readsEither_58 : decode cX4_readsEither 58 = .ok (.istore_n 2, 1) := by decide +kernel
theorem dX4_readsEither_59 : decode cX4_readsEither 59 = .ok (.iload_n 2, 1) := by decide +kernel
theorem dX4_readsEither_60 : decode cX4_readsEither 60 = .ok (.ifCond .ne 37, 3) := by decide +kernel
theorem dX4_readsEither_63 : decode cX4_readsEither 63 = .ok (.iload_n 3, 1) := by decide +kernel
theorem dX4_readsEither_64 : decode cX4_readsEither 64 = .ok (.ifCond .eq 18, 3) := by decide +kernel
theorem dX4_readsEither_67 : decode cX4_readsEither 67 = .ok (.aload_n 0, 1) := by decide +kernel
theorem dX4_readsEither_68 : decode cX4_readsEither 68 = .ok (.getfield 26, 3) := by decide +kernel
theorem dX4_readsEither_71 : decode cX4_readsEither 71 = .ok (.getfield 41, 3) := by decide +kernel
theorem dX4_readsEither_74 : decode cX4_readsEither 74 = .ok (.bipush 7, 2) := by decide +kernel
theorem dX4_readsEither_76 : decode cX4_readsEither 76 = .ok (.invokestatic 161, 3) := by decide +kernel
theorem dX4_readsEither_79 : decode cX4_readsEither 79 = .ok (.invokevirtual 165, 3) := by decide +kernel
theorem dX4_readsEither_82 : decode cX4_readsEither 82 = .ok (.aload_n 0, 1) := by decide +kernel
theorem dX4_readsEither_83 : decode cX4_readsEither 83 = .ok (.getfield 38, 3) := by decide +kernel
theorem dX4_readsEither_86 : decode cX4_readsEither 86 = .ok (.bipush 7, 2) := by decide +kernel
theorem dX4_readsEither_88 : decode cX4_readsEither 88 = .ok (.if_icmp .ne 7, 3) := by decide +kernel
theorem dX4_readsEither_91 : decode cX4_readsEither 91 = .ok (.iconst 1, 1) := by decide +kernel
theorem dX4_readsEither_92 : decode cX4_readsEither 92 = .ok (.goto 4, 3) := by decide +kernel
theorem dX4_readsEither_95 : decode cX4_readsEither 95 = .ok (.iconst 0, 1) := by decide +kernel
theorem dX4_readsEither_96 : decode cX4_readsEither 96 = .ok (.istore_n 3, 1) := by decide +kernel
theorem dX4_readsEither_97 : decode cX4_readsEither 97 = .ok (.iload_n 2, 1) := by decide +kernel
theorem dX4_readsEither_98 : decode cX4_readsEither 98 = .ok (.ifCond .ne 9, 3) := by decide +kernel
theorem dX4_readsEither_101 : decode cX4_readsEither 101 = .ok (.iload_n 3, 1) := by decide +kernel
theorem dX4_readsEither_102 : decode cX4_readsEither 102 = .ok (.ifCond .ne 5, 3) := by decide +kernel
theorem dX4_readsEither_105 : decode cX4_readsEither 105 = .ok (.iconst 1, 1) := by decide +kernel
theorem dX4_readsEither_106 : decode cX4_readsEither 106 = .ok (.ireturn, 1) := by decide +kernel
theorem dX4_readsEither_107 : decode cX4_readsEither 107 = .ok (.aload_n 0, 1) := by decide +kernel
theorem dX4_readsEither_108 : decode cX4_readsEither 108 = .ok (.invokevirtual 77, 3) := by decide +kernel
theorem dX4_readsEither_111 : decode cX4_readsEither 111 = .ok (.iinc 4 1, 3) := by decide +kernel
theorem dX4_readsEither_114 : decode cX4_readsEither 114 = .ok (.goto (-107), 3) := by decide +kernel
theorem dX4_readsEither_117 : decode cX4_readsEither 117 = .ok (.iconst 0, 1) := by decide +kernel
theorem dX4_readsEither_118 : decode cX4_readsEither 118 = .ok (.ireturn, 1) := by decide +kernel
theorem dX4_readsSingle_0 : decode cX4_readsSingle 0 = .ok (.aload_n 0, 1) := by decide +kernel
theorem dX4_readsSingle_1 : decode cX4_readsSingle 1 = .ok (.getfield 38, 3) := by decide +kernel
theorem dX4_readsSingle_4 : decode cX4_readsSingle 4 = .ok (.istore_n 2, 1) := by decide +kernel
theorem dX4_readsSingle_5 : decode cX4_readsSingle 5 = .ok (.iload_n 2, 1) := by decide +kernel
theorem dX4_readsSingle_6 : decode cX4_readsSingle 6 = .ok (.bipush 9, 2) := by decide +kernel
theorem dX4_readsSingle_8 : decode cX4_readsSingle 8 = .ok (.if_icmp .eq 9, 3) := by decide +kernel
theorem dX4_readsSingle_11 : decode cX4_readsSingle 11 = .ok (.iload_n 2, 1) := by decide +kernel
theorem dX4_readsSingle_12 : decode cX4_readsSingle 12 = .ok (.bipush 40, 2) := by decide +kernel
theorem dX4_readsSingle_14 : decode cX4_readsSingle 14 = .ok (.if_icmp .ne 76, 3) := by decide +kernel
theorem dX4_readsSingle_17 : decode cX4_readsSingle 17 = .ok (.iload_n 1, 1) := by decide +kernel
theorem dX4_readsSingle_18 : decode cX4_readsSingle 18 = .ok (.bipush 8, 2) := by decide +kernel
theorem dX4_readsSingle_20 : decode cX4_readsSingle 20 = .ok (.if_icmp .lt 9, 3) := by decide +kernel
theorem dX4_readsSingle_23 : decode cX4_readsSingle 23 = .ok (.aload_n 0, 1) := by decide +kernel
theorem dX4_readsSingle_24 : decode cX4_readsSingle 24 = .ok (.iconst 3, 1) := by decide +kernel
theorem dX4_readsSingle_25 : decode cX4_readsSingle 25 = .ok (.invokevirtual 83, 3) := by decide +kernel
theorem dX4_readsSingle_28 : decode cX4_readsSingle 28 = .ok (.ireturn, 1) := by decide +kernel
theorem dX4_readsSingle_29 : decode cX4_readsSingle 29 = .ok (.aload_n 0, 1) := by decide +kernel
theorem dX4_readsSingle_30 : decode cX4_readsSingle 30 = .ok (.invokevirtual 77, 3) := by decide +kernel
theorem dX4_readsSingle_33 : decode cX4_readsSingle 33 = .ok (.iload_n 2, 1) := by decide +kernel
theorem dX4_readsSingle_34 : decode cX4_readsSingle 34 = .ok (.bipush 40, 2) := by decide +kernel
theorem dX4_readsSingle_36 : decode cX4_readsSingle 36 = .ok (.if_icmp .ne 28, 3) := by decide +kernel
theorem dX4_readsSingle_39 : decode cX4_readsSingle 39 = .ok (.aload_n 0, 1) := by decide +kernel
theorem dX4_readsSingle_40 : decode cX4_readsSingle 40 = .ok (.iload_n 1, 1) := by decide +kernel
theorem dX4_readsSingle_41 : decode cX4_readsSingle 41 = .ok (.iconst 1, 1) := by decide +kernel
theorem dX4_readsSingle_42 : decode cX4_readsSingle 42 = .ok (.iadd, 1) := by decide +kernel
theorem dX4_readsSingle_43 : decode cX4_readsSingle 43 = .ok (.invokevirtual 152, 3) := by decide +kernel
theorem dX4_readsSingle_46 : decode cX4_readsSingle 46 = .ok (.ifCond .eq 16, 3) := by decide +kernel
theorem dX4_readsSingle_49 : decode cX4_readsSingle 49 = .ok (.aload_n 0, 1) := by decide +kernel
theorem dX4_readsSingle_50 : decode cX4_readsSingle 50 = .ok (.bipush 41, 2) := by decide +kernel
theorem dX4_readsSingle_52 : decode cX4_readsSingle 52 = .ok (.invokevirtual 87, 3) := by decide +kernel
theorem dX4_readsSingle_55 : decode cX4_readsSingle 55 = .ok (.ifCond .eq 7, 3) := by decide +kernel
theorem dX4_readsSingle_58 : decode cX4_readsSingle 58 = .ok (.iconst 1, 1) := by decide +kernel
theorem dX4_readsSingle_59 : decode cX4_readsSingle 59 = .ok (.goto 4, 3) := by decide +kernel
theorem dX4_readsSingle_62 : decode cX4_readsSingle 62 = .ok (.iconst 0, 1) := by decide +kernel
theorem dX4_readsSingle_63 : decode cX4_readsSingle 63 = .ok (.ireturn, 1) := by decide +kernel
theorem dX4_readsSingle_64 : decode cX4_readsSingle 64 = .ok (.aload_n 0, 1) := by decide +kernel
theorem dX4_readsSingle_65 : decode cX4_readsSingle 65 = .ok (.iload_n 1, 1) := by decide +kernel
theorem dX4_readsSingle_66 : decode cX4_readsSingle 66 = .ok (.iconst 1, 1) := by decide +kernel
theorem dX4_readsSingle_67 : decode cX4_readsSingle 67 = .ok (.iadd, 1) := by decide +kernel
theorem dX4_readsSingle_68 : decode cX4_readsSingle 68 = .ok (.invokevirtual 158, 3) := by decide +kernel
theorem dX4_readsSingle_71 : decode cX4_readsSingle 71 = .ok (.ifCond .ne 5, 3) := by decide +kernel
theorem dX4_readsSingle_74 : decode cX4_readsSingle 74 = .ok (.iconst 0, 1) := by decide +kernel
theorem dX4_readsSingle_75 : decode cX4_readsSingle 75 = .ok (.ireturn, 1) := by decide +kernel
theorem dX4_readsSingle_76 : decode cX4_readsSingle 76 = .ok (.aload_n 0, 1) := by decide +kernel
theorem dX4_readsSingle_77 : decode cX4_readsSingle 77 = .ok (.getfield 26, 3) := by decide +kernel
theorem dX4_readsSingle_80 : decode cX4_readsSingle 80 = .ok (.getfield 41, 3) := by decide +kernel
theorem dX4_readsSingle_83 : decode cX4_readsSingle 83 = .ok (.bipush (-20), 2) := by decide +kernel
theorem dX4_readsSingle_85 : decode cX4_readsSingle 85 = .ok (.invokevirtual 165, 3) := by decide +kernel
theorem dX4_readsSingle_88 : decode cX4_readsSingle 88 = .ok (.iconst 1, 1) := by decide +kernel
theorem dX4_readsSingle_89 : decode cX4_readsSingle 89 = .ok (.ireturn, 1) := by decide +kernel
theorem dX4_readsSingle_90 : decode cX4_readsSingle 90 = .ok (.aload_n 0, 1) := by decide +kernel
theorem dX4_readsSingle_91 : decode cX4_readsSingle 91 = .ok (.invokevirtual 143, 3) := by decide +kernel
theorem dX4_readsSingle_94 : decode cX4_readsSingle 94 = .ok (.ifCond .ne 5, 3) := by decide +kernel
theorem dX4_readsSingle_97 : decode cX4_readsSingle 97 = .ok (.iconst 0, 1) := by decide +kernel
theorem dX4_readsSingle_98 : decode cX4_readsSingle 98 = .ok (.ireturn, 1) := by decide +kernel
theorem dX4_readsSingle_99 : decode cX4_readsSingle 99 = .ok (.aload_n 0, 1) := by decide +kernel
theorem dX4_readsSingle_100 : decode cX4_readsSingle 100 = .ok (.getfield 38, 3) := by decide +kernel
theorem dX4_readsSingle_103 : decode cX4_readsSingle 103 = .ok (.istore_n 3, 1) := by decide +kernel
theorem dX4_readsSingle_104 : decode cX4_readsSingle 104 = .ok (.aload_n 0, 1) := by decide +kernel
theorem dX4_readsSingle_105 : decode cX4_readsSingle 105 = .ok (.bipush 60, 2) := by decide +kernel
theorem dX4_readsSingle_107 : decode cX4_readsSingle 107 = .ok (.invokevirtual 87, 3) := by decide +kernel
theorem dX4_readsSingle_110 : decode cX4_readsSingle 110 = .ok (.ifCond .ne 21, 3) := by decide +kernel
theorem dX4_readsSingle_113 : decode cX4_readsSingle 113 = .ok (.aload_n 0, 1) := by decide +kernel
theorem dX4_readsSingle_114 : decode cX4_readsSingle 114 = .ok (.bipush 61, 2) := by decide +kernel
theorem dX4_readsSingle_116 : decode cX4_readsSingle 116 = .ok (.invokevirtual 87, 3) := by decide +kernel
theorem dX4_readsSingle_119 : decode cX4_readsSingle 119 = .ok (.ifCond .ne 12, 3) := by decide +kernel
theorem dX4_readsSingle_122 : decode cX4_readsSingle 122 = .ok (.aload_n 0, 1) := by decide +kernel
theorem dX4_readsSingle_123 : decode cX4_readsSingle 123 = .ok (.bipush 62, 2) := by decide +kernel
theorem dX4_readsSingle_125 : decode cX4_readsSingle 125 = .ok (.invokevirtual 87, 3) := by decide +kernel
theorem dX4_readsSingle_128 : decode cX4_readsSingle 128 = .ok (.ifCond .eq 10, 3) := by decide +kernel
theorem dX4_readsSingle_131 : decode cX4_readsSingle 131 = .ok (.aload_n 0, 1) := by decide +kernel
theorem dX4_readsSingle_132 : decode cX4_readsSingle 132 = .ok (.invokevirtual 143, 3) := by decide +kernel
theorem dX4_readsSingle_135 : decode cX4_readsSingle 135 = .ok (.ifCond .ne 5, 3) := by decide +kernel
theorem dX4_readsSingle_138 : decode cX4_readsSingle 138 = .ok (.iconst 0, 1) := by decide +kernel
theorem dX4_readsSingle_139 : decode cX4_readsSingle 139 = .ok (.ireturn, 1) := by decide +kernel
theorem dX4_readsSingle_140 : decode cX4_readsSingle 140 = .ok (.aload_n 0, 1) := by decide +kernel
theorem dX4_readsSingle_141 : decode cX4_readsSingle 141 = .ok (.getfield 26, 3) := by decide +kernel
theorem dX4_readsSingle_144 : decode cX4_readsSingle 144 = .ok (.getfield 41, 3) := by decide +kernel
theorem dX4_readsSingle_147 : decode cX4_readsSingle 147 = .ok (.iload_n 3, 1) := by decide +kernel
theorem dX4_readsSingle_148 : decode cX4_readsSingle 148 = .ok (.invokestatic 161, 3) := by decide +kernel
theorem dX4_readsSingle_151 : decode cX4_readsSingle 151 = .ok (.invokevirtual 165, 3) := by decide +kernel
theorem dX4_readsSingle_154 : decode cX4_readsSingle 154 = .ok (.iconst 1, 1) := by decide +kernel
theorem dX4_readsSingle_155 : decode cX4_readsSingle 155 = .ok (.ireturn, 1) := by decide +kernel
theorem dX4_readsSum_0 : decode cX4_readsSum 0 = .ok (.iconst 0, 1) := by decide +kernel
theorem dX4_readsSum_1 : decode cX4_readsSum 1 = .ok (.istore_n 1, 1) := by decide +kernel
theorem dX4_readsSum_2 : decode cX4_readsSum 2 = .ok (.iconst 0, 1) := by decide +kernel
theorem dX4_readsSum_3 : decode cX4_readsSum 3 = .ok (.istore_n 2, 1) := by decide +kernel
theorem dX4_readsSum_4 : decode cX4_readsSum 4 = .ok (.iconst 0, 1) := by decide +kernel
theorem dX4_readsSum_5 : decode cX4_readsSum 5 = .ok (.istore_n 3, 1) := by decide +kernel
theorem dX4_readsSum_6 : decode cX4_readsSum 6 = .ok (.iload_n 3, 1) := by decide +kernel
theorem dX4_readsSum_7 : decode cX4_readsSum 7 = .ok (.sipush 400, 3) := by decide +kernel
theorem dX4_readsSum_10 : decode cX4_readsSum 10 = .ok (.if_icmp .gt 175, 3) := by decide +kernel
theorem dX4_readsSum_13 : decode cX4_readsSum 13 = .ok (.iload_n 1, 1) := by decide +kernel
theorem dX4_readsSum_14 : decode cX4_readsSum 14 = .ok (.bipush 47, 2) := by decide +kernel
theorem dX4_readsSum_16 : decode cX4_readsSum 16 = .ok (.if_icmp .ne 32, 3) := by decide +kernel
theorem dX4_readsSum_19 : decode cX4_readsSum 19 = .ok (.aload_n 0, 1) := by decide +kernel
theorem dX4_readsSum_20 : decode cX4_readsSum 20 = .ok (.getfield 38, 3) := by decide +kernel
theorem dX4_readsSum_23 : decode cX4_readsSum 23 = .ok (.iconst 1, 1) := by decide +kernel
theorem dX4_readsSum_24 : decode cX4_readsSum 24 = .ok (.if_icmp .ne 24, 3) := by decide +kernel
theorem dX4_readsSum_27 : decode cX4_readsSum 27 = .ok (.aload_n 0, 1) := by decide +kernel
theorem dX4_readsSum_28 : decode cX4_readsSum 28 = .ok (.getfield 18, 3) := by decide +kernel
theorem dX4_readsSum_31 : decode cX4_readsSum 31 = .ok (.getfield 90, 3) := by decide +kernel
theorem dX4_readsSum_34 : decode cX4_readsSum 34 = .ok (.aload_n 0, 1) := by decide +kernel
theorem dX4_readsSum_35 : decode cX4_readsSum 35 = .ok (.getfield 29, 3) := by decide +kernel
theorem dX4_readsSum_38 : decode cX4_readsSum 38 = .ok (.iaload, 1) := by decide +kernel
theorem dX4_readsSum_39 : decode cX4_readsSum 39 = .ok (.ifCond .ne 9, 3) := by decide +kernel
theorem dX4_readsSum_42 : decode cX4_readsSum 42 = .ok (.aload_n 0, 1) := by decide +kernel
theorem dX4_readsSum_43 : decode cX4_readsSum 43 = .ok (.iconst 2, 1) := by decide +kernel
theorem dX4_readsSum_44 : decode cX4_readsSum 44 = .ok (.invokevirtual 83, 3) := by decide +kernel
theorem dX4_readsSum_47 : decode cX4_readsSum 47 = .ok (.ireturn, 1) := by decide +kernel
theorem dX4_readsSum_48 : decode cX4_readsSum 48 = .ok (.iload_n 1, 1) := by decide +kernel
theorem dX4_readsSum_49 : decode cX4_readsSum 49 = .ok (.bipush 47, 2) := by decide +kernel
theorem dX4_readsSum_51 : decode cX4_readsSum 51 = .ok (.if_icmp .ne 11, 3) := by decide +kernel
theorem dX4_readsSum_54 : decode cX4_readsSum 54 = .ok (.aload_n 0, 1) := by decide +kernel
theorem dX4_readsSum_55 : decode cX4_readsSum 55 = .ok (.getfield 38, 3) := by decide +kernel
theorem dX4_readsSum_58 : decode cX4_readsSum 58 = .ok (.iconst 1, 1) := by decide +kernel
theorem dX4_readsSum_59 : decode cX4_readsSum 59 = .ok (.if_icmp .ne 10, 3) := by decide +kernel
theorem dX4_readsSum_62 : decode cX4_readsSum 62 = .ok (.aload_n 0, 1) := by decide +kernel
theorem dX4_readsSum_63 : decode cX4_readsSum 63 = .ok (.invokevirtual 169, 3) := by decide +kernel
theorem dX4_readsSum_66 : decode cX4_readsSum 66 = .ok (.ifCond .ne 5, 3) := by decide +kernel
theorem dX4_readsSum_69 : decode cX4_readsSum 69 = .ok (.iconst 0, 1) := by decide +kernel
theorem dX4_readsSum_70 : decode cX4_readsSum 70 = .ok (.ireturn, 1) := by decide +kernel
theorem dX4_readsSum_71 : decode cX4_readsSum 71 = .ok (.iload_n 1, 1) := by decide +kernel
theorem dX4_readsSum_72 : decode cX4_readsSum 72 = .ok (.ifCond .eq 17, 3) := by decide +kernel
theorem dX4_readsSum_75 : decode cX4_readsSum 75 = .ok (.aload_n 0, 1) := by decide +kernel
theorem dX4_readsSum_76 : decode cX4_readsSum 76 = .ok (.getfield 26, 3) := by decide +kernel
theorem dX4_readsSum_79 : decode cX4_readsSum 79 = .ok (.getfield 41, 3) := by decide +kernel
theorem dX4_readsSum_82 : decode cX4_readsSum 82 = .ok (.iload_n 1, 1) := by decide +kernel
theorem dX4_readsSum_83 : decode cX4_readsSum 83 = .ok (.invokestatic 161, 3) := by decide +kernel
theorem dX4_readsSum_86 : decode cX4_readsSum 86 = .ok (.invokevirtual 165, 3) := by decide +kernel
theorem dX4_readsSum_89 : decode cX4_readsSum 89 = .ok (.aload_n 0, 1) := by decide +kernel
theorem dX4_readsSum_90 : decode cX4_readsSum 90 = .ok (.getfield 38, 3) := by decide +kernel
theorem dX4_readsSum_93 : decode cX4_readsSum 93 = .ok (.bipush 42, 2) := by decide +kernel
theorem dX4_readsSum_95 : decode cX4_readsSum 95 = .ok (.if_icmp .eq 12, 3) := by decide +kernel
theorem dX4_readsSum_98 : decode cX4_readsSum 98 = .ok (.aload_n 0, 1) := by decide +kernel
theorem dX4_readsSum_99 : decode cX4_readsSum 99 = .ok (.getfield 38, 3) := by decide +kernel
theorem dX4_readsSum_102 : decode cX4_readsSum 102 = .ok (.bipush 47, 2) := by decide +kernel
theorem dX4_readsSum_104 : decode cX4_readsSum 104 = .ok (.if_icmp .ne 10, 3) := by decide +kernel
theorem dX4_readsSum_107 : decode cX4_readsSum 107 = .ok (.aload_n 0, 1) := by decide +kernel
theorem dX4_readsSum_108 : decode cX4_readsSum 108 = .ok (.getfield 38, 3) := by decide +kernel
theorem dX4_readsSum_111 : decode cX4_readsSum 111 = .ok (.goto 4, 3) := by decide +kernel
theorem dX4_readsSum_114 : decode cX4_readsSum 114 = .ok (.iconst 0, 1) := by decide +kernel
theorem dX4_readsSum_115 : decode cX4_readsSum 115 = .ok (.istore_n 1, 1) := by decide +kernel
theorem dX4_readsSum_116 : decode cX4_readsSum 116 = .ok (.iload_n 1, 1) := by decide +kernel
theorem dX4_readsSum_117 : decode cX4_readsSum 117 = .ok (.ifCond .ne 48, 3) := by decide +kernel
theorem dX4_readsSum_120 : decode cX4_readsSum 120 = .ok (.iload_n 2, 1) := by decide +kernel
theorem dX4_readsSum_121 : decode cX4_readsSum 121 = .ok (.ifCond .eq 17, 3) := by decide +kernel
theorem dX4_readsSum_124 : decode cX4_readsSum 124 = .ok (.aload_n 0, 1) := by decide +kernel
theorem dX4_readsSum_125 : decode cX4_readsSum 125 = .ok (.getfield 26, 3) := by decide +kernel
theorem dX4_readsSum_128 : decode cX4_readsSum 128 = .ok (.getfield 41, 3) := by decide +kernel
theorem dX4_readsSum_131 : decode cX4_readsSum 131 = .ok (.iload_n 2, 1) := by decide +kernel
theorem dX4_readsSum_132 : decode cX4_readsSum 132 = .ok (.invokestatic 161, 3) := by decide +kernel
theorem dX4_readsSum_135 : decode cX4_readsSum 135 = .ok (.invokevirtual 165, 3) := by decide +kernel
theorem dX4_readsSum_138 : decode cX4_readsSum 138 = .ok (.aload_n 0, 1) := by decide +kernel
theorem dX4_readsSum_139 : decode cX4_readsSum 139 = .ok (.getfield 38, 3) := by decide +kernel
theorem dX4_readsSum_142 : decode cX4_readsSum 142 = .ok (.bipush 43, 2) := by decide +kernel
theorem dX4_readsSum_144 : decode cX4_readsSum 144 = .ok (.if_icmp .eq 12, 3) := by decide +kernel
theorem dX4_readsSum_147 : decode cX4_readsSum 147 = .ok (.aload_n 0, 1) := by decide +kernel
theorem dX4_readsSum_148 : decode cX4_readsSum 148 = .ok (.getfield 38, 3) := by decide +kernel
theorem dX4_readsSum_151 : decode cX4_readsSum 151 = .ok (.bipush 45, 2) := by decide +kernel
theorem dX4_readsSum_153 : decode cX4_readsSum 153 = .ok (.if_icmp .ne 10, 3) := by decide +kernel
theorem dX4_readsSum_156 : decode cX4_readsSum 156 = .ok (.aload_n 0, 1) := by decide +kernel
theorem dX4_readsSum_157 : decode cX4_readsSum 157 = .ok (.getfield 38, 3) := by decide +kernel
theorem dX4_readsSum_160 : decode cX4_readsSum 160 = .ok (.goto 4, 3) := by decide +kernel
theorem dX4_readsSum_163 : decode cX4_readsSum 163 = .ok (.iconst 0, 1) := by decide +kernel
theorem dX4_readsSum_164 : decode cX4_readsSum 164 = .ok (.istore_n 2, 1) := by decide +kernel
theorem dX4_readsSum_165 : decode cX4_readsSum 165 = .ok (.iload_n 1, 1) := by decide +kernel
theorem dX4_readsSum_166 : decode cX4_readsSum 166 = .ok (.ifCond .ne 9, 3) := by decide +kernel
theorem dX4_readsSum_169 : decode cX4_readsSum 169 = .ok (.iload_n 2, 1) := by decide +kernel
theorem dX4_readsSum_170 : decode cX4_readsSum 170 = .ok (.ifCond .ne 5, 3) := by decide +kernel
theorem dX4_readsSum_173 : decode cX4_readsSum 173 = .ok (.iconst 1, 1) := by decide +kernel
theorem dX4_readsSum_174 : decode cX4_readsSum 174 = .ok (.ireturn, 1) := by decide +kernel
theorem dX4_readsSum_175 : decode cX4_readsSum 175 = .ok (.aload_n 0, 1) := by decide +kernel
theorem dX4_readsSum_176 : decode cX4_readsSum 176 = .ok (.invokevirtual 77, 3) := by decide +kernel
theorem dX4_readsSum_179 : decode cX4_readsSum 179 = .ok (.iinc 3 1, 3) := by decide +kernel
theorem dX4_readsSum_182 : decode cX4_readsSum 182 = .ok (.goto (-176), 3) := by decide +kernel
theorem dX4_readsSum_185 : decode cX4_readsSum 185 = .ok (.iconst 0, 1) := by decide +kernel
theorem dX4_readsSum_186 : decode cX4_readsSum 186 = .ok (.ireturn, 1) := by decide +kernel
theorem dX4_readsUnit_0 : decode cX4_readsUnit 0 = .ok (.aload_n 0, 1) := by decide +kernel
theorem dX4_readsUnit_1 : decode cX4_readsUnit 1 = .ok (.getfield 38, 3) := by decide +kernel
theorem dX4_readsUnit_4 : decode cX4_readsUnit 4 = .ok (.iconst 1, 1) := by decide +kernel
theorem dX4_readsUnit_5 : decode cX4_readsUnit 5 = .ok (.if_icmp .ne 28, 3) := by decide +kernel
theorem dX4_readsUnit_8 : decode cX4_readsUnit 8 = .ok (.aload_n 0, 1) := by decide +kernel
theorem dX4_readsUnit_9 : decode cX4_readsUnit 9 = .ok (.getfield 26, 3) := by decide +kernel
theorem dX4_readsUnit_12 : decode cX4_readsUnit 12 = .ok (.getfield 41, 3) := by decide +kernel
theorem dX4_readsUnit_15 : decode cX4_readsUnit 15 = .ok (.aload_n 0, 1) := by decide +kernel
theorem dX4_readsUnit_16 : decode cX4_readsUnit 16 = .ok (.getfield 18, 3) := by decide +kernel
theorem dX4_readsUnit_19 : decode cX4_readsUnit 19 = .ok (.getfield 90, 3) := by decide +kernel
theorem dX4_readsUnit_22 : decode cX4_readsUnit 22 = .ok (.aload_n 0, 1) := by decide +kernel
theorem dX4_readsUnit_23 : decode cX4_readsUnit 23 = .ok (.getfield 29, 3) := by decide +kernel
theorem dX4_readsUnit_26 : decode cX4_readsUnit 26 = .ok (.iaload, 1) := by decide +kernel
theorem dX4_readsUnit_27 : decode cX4_readsUnit 27 = .ok (.invokevirtual 165, 3) := by decide +kernel
theorem dX4_readsUnit_30 : decode cX4_readsUnit 30 = .ok (.goto 43, 3) := by decide +kernel
theorem dX4_readsUnit_33 : decode cX4_readsUnit 33 = .ok (.aload_n 0, 1) := by decide +kernel
theorem dX4_readsUnit_34 : decode cX4_readsUnit 34 = .ok (.getfield 38, 3) := by decide +kernel
theorem dX4_readsUnit_37 : decode cX4_readsUnit 37 = .ok (.bipush 10, 2) := by decide +kernel
theorem dX4_readsUnit_39 : decode cX4_readsUnit 39 = .ok (.if_icmp .lt 32, 3) := by decide +kernel
theorem dX4_readsUnit_42 : decode cX4_readsUnit 42 = .ok (.aload_n 0, 1) := by decide +kernel
theorem dX4_readsUnit_43 : decode cX4_readsUnit 43 = .ok (.getfield 38, 3) := by decide +kernel
theorem dX4_readsUnit_46 : decode cX4_readsUnit 46 = .ok (.bipush 19, 2) := by decide +kernel
theorem dX4_readsUnit_48 : decode cX4_readsUnit 48 = .ok (.if_icmp .gt 23, 3) := by decide +kernel
theorem dX4_readsUnit_51 : decode cX4_readsUnit 51 = .ok (.aload_n 0, 1) := by decide +kernel
theorem dX4_readsUnit_52 : decode cX4_readsUnit 52 = .ok (.getfield 26, 3) := by decide +kernel
theorem dX4_readsUnit_55 : decode cX4_readsUnit 55 = .ok (.getfield 41, 3) := by decide +kernel
theorem dX4_readsUnit_58 : decode cX4_readsUnit 58 = .ok (.aload_n 0, 1) := by decide +kernel
theorem dX4_readsUnit_59 : decode cX4_readsUnit 59 = .ok (.getfield 38, 3) := by decide +kernel
theorem dX4_readsUnit_62 : decode cX4_readsUnit 62 = .ok (.invokestatic 172, 3) := by decide +kernel
theorem dX4_readsUnit_65 : decode cX4_readsUnit 65 = .ok (.invokevirtual 165, 3) := by decide +kernel
theorem dX4_readsUnit_68 : decode cX4_readsUnit 68 = .ok (.goto 5, 3) := by decide +kernel
theorem dX4_readsUnit_71 : decode cX4_readsUnit 71 = .ok (.iconst 0, 1) := by decide +kernel
theorem dX4_readsUnit_72 : decode cX4_readsUnit 72 = .ok (.ireturn, 1) := by decide +kernel
theorem dX4_readsUnit_73 : decode cX4_readsUnit 73 = .ok (.aload_n 0, 1) := by decide +kernel
theorem dX4_readsUnit_74 : decode cX4_readsUnit 74 = .ok (.invokevirtual 77, 3) := by decide +kernel
theorem dX4_readsUnit_77 : decode cX4_readsUnit 77 = .ok (.iconst 1, 1) := by decide +kernel
theorem dX4_readsUnit_78 : decode cX4_readsUnit 78 = .ok (.ireturn, 1) := by decide +kernel
theorem dX5_init_0 : decode cX5_init 0 = .ok (.aload_n 0, 1) := by decide +kernel
theorem dX5_init_1 : decode cX5_init 1 = .ok (.invokespecial 3, 3) := by decide +kernel
theorem dX5_init_4 : decode cX5_init 4 = .ok (.aload_n 0, 1) := by decide +kernel
theorem dX5_init_5 : decode cX5_init 5 = .ok (.bipush 16, 2) := by decide +kernel
theorem dX5_init_7 : decode cX5_init 7 = .ok (.newarray .int, 2) := by decide +kernel
theorem dX5_init_9 : decode cX5_init 9 = .ok (.putfield 9, 3) := by decide +kernel
theorem dX5_init_12 : decode cX5_init 12 = .ok (.aload_n 0, 1) := by decide +kernel
theorem dX5_init_13 : decode cX5_init 13 = .ok (.bipush 16, 2) := by decide +kernel
theorem dX5_init_15 : decode cX5_init 15 = .ok (.newarray .int, 2) := by decide +kernel
theorem dX5_init_17 : decode cX5_init 17 = .ok (.putfield 15, 3) := by decide +kernel
theorem dX5_init_20 : decode cX5_init 20 = .ok (.aload_n 0, 1) := by decide +kernel
theorem dX5_init_21 : decode cX5_init 21 = .ok (.bipush 16, 2) := by decide +kernel
theorem dX5_init_23 : decode cX5_init 23 = .ok (.newarray .int, 2) := by decide +kernel
theorem dX5_init_25 : decode cX5_init 25 = .ok (.putfield 18, 3) := by decide +kernel
theorem dX5_init_28 : decode cX5_init 28 = .ok (.return_, 1) := by decide +kernel
theorem dX5_make_0 : decode cX5_make 0 = .ok (.aload_n 0, 1) := by decide +kernel
theorem dX5_make_1 : decode cX5_make 1 = .ok (.iconst 0, 1) := by decide +kernel
theorem dX5_make_2 : decode cX5_make 2 = .ok (.putfield 21, 3) := by decide +kernel
theorem dX5_make_5 : decode cX5_make 5 = .ok (.aload_n 1, 1) := by decide +kernel
theorem dX5_make_6 : decode cX5_make 6 = .ok (.getfield 25, 3) := by decide +kernel
theorem dX5_make_9 : decode cX5_make 9 = .ok (.invokevirtual 31, 3) := by decide +kernel
theorem dX5_make_12 : decode cX5_make 12 = .ok (.istore_n 2, 1) := by decide +kernel
theorem dX5_make_13 : decode cX5_make 13 = .ok (.iconst 0, 1) := by decide +kernel
theorem dX5_make_14 : decode cX5_make 14 = .ok (.istore_n 3, 1) := by decide +kernel
