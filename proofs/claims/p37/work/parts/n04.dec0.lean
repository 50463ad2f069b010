theorem dX1_init_0 : decode cX1_init 0 = .ok (.aload_n 0, 1) := by decide +kernel
theorem dX1_init_1 : decode cX1_init 1 = .ok (.invokespecial 3, 3) := by decide +kernel
theorem dX1_init_4 : decode cX1_init 4 = .ok (.aload_n 0, 1) := by decide +kernel
theorem dX1_init_5 : decode cX1_init 5 = .ok (.bipush 7, 2) := by decide +kernel
theorem dX1_init_7 : decode cX1_init 7 = .ok (.newarray .int, 2) := by decide +kernel
theorem dX1_init_9 : decode cX1_init 9 = .ok (.putfield 9, 3) := by decide +kernel
theorem dX1_init_12 : decode cX1_init 12 = .ok (.return_, 1) := by decide +kernel
theorem dX2_init_0 : decode cX2_init 0 = .ok (.aload_n 0, 1) := by decide +kernel
theorem dX2_init_1 : decode cX2_init 1 = .ok (.invokespecial 5, 3) := by decide +kernel
theorem dX2_init_4 : decode cX2_init 4 = .ok (.aload_n 0, 1) := by decide +kernel
theorem dX2_init_5 : decode cX2_init 5 = .ok (.bipush 100, 2) := by decide +kernel
theorem dX2_init_7 : decode cX2_init 7 = .ok (.newarray .int, 2) := by decide +kernel
theorem dX2_init_9 : decode cX2_init 9 = .ok (.putfield 11, 3) := by decide +kernel
theorem dX2_init_12 : decode cX2_init 12 = .ok (.return_, 1) := by decide +kernel
theorem dX2_clear_0 : decode cX2_clear 0 = .ok (.aload_n 0, 1) := by decide +kernel
theorem dX2_clear_1 : decode cX2_clear 1 = .ok (.getfield 11, 3) := by decide +kernel
theorem dX2_clear_4 : decode cX2_clear 4 = .ok (.ldc 15, 2) := by decide +kernel
theorem dX2_clear_6 : decode cX2_clear 6 = .ok (.invokestatic 16, 3) := by decide +kernel
theorem dX2_clear_9 : decode cX2_clear 9 = .ok (.iconst 0, 1) := by decide +kernel
theorem dX2_clear_10 : decode cX2_clear 10 = .ok (.istore_n 1, 1) := by decide +kernel
theorem dX2_clear_11 : decode cX2_clear 11 = .ok (.iload_n 1, 1) := by decide +kernel
theorem dX2_clear_12 : decode cX2_clear 12 = .ok (.bipush 10, 2) := by decide +kernel
theorem dX2_clear_14 : decode cX2_clear 14 = .ok (.if_icmp .ge 21, 3) := by decide +kernel
theorem dX2_clear_17 : decode cX2_clear 17 = .ok (.aload_n 0, 1) := by decide +kernel
theorem dX2_clear_18 : decode cX2_clear 18 = .ok (.getfield 11, 3) := by decide +kernel
theorem dX2_clear_21 : decode cX2_clear 21 = .ok (.iload_n 1, 1) := by decide +kernel
theorem dX2_clear_22 : decode cX2_clear 22 = .ok (.bipush 10, 2) := by decide +kernel
theorem dX2_clear_24 : decode cX2_clear 24 = .ok (.imul, 1) := by decide +kernel
theorem dX2_clear_25 : decode cX2_clear 25 = .ok (.iload_n 1, 1) := by decide +kernel
theorem dX2_clear_26 : decode cX2_clear 26 = .ok (.iadd, 1) := by decide +kernel
theorem dX2_clear_27 : decode cX2_clear 27 = .ok (.iconst 0, 1) := by decide +kernel
theorem dX2_clear_28 : decode cX2_clear 28 = .ok (.iastore, 1) := by decide +kernel
theorem dX2_clear_29 : decode cX2_clear 29 = .ok (.iinc 1 1, 3) := by decide +kernel
theorem dX2_clear_32 : decode cX2_clear 32 = .ok (.goto (-21), 3) := by decide +kernel
theorem dX2_clear_35 : decode cX2_clear 35 = .ok (.aload_n 0, 1) := by decide +kernel
theorem dX2_clear_36 : decode cX2_clear 36 = .ok (.iconst 0, 1) := by decide +kernel
theorem dX2_clear_37 : decode cX2_clear 37 = .ok (.putfield 22, 3) := by decide +kernel
theorem dX2_clear_40 : decode cX2_clear 40 = .ok (.return_, 1) := by decide +kernel
theorem dX2_copyFrom_0 : decode cX2_copyFrom 0 = .ok (.aload_n 1, 1) := by decide +kernel
theorem dX2_copyFrom_1 : decode cX2_copyFrom 1 = .ok (.getfield 11, 3) := by decide +kernel
theorem dX2_copyFrom_4 : decode cX2_copyFrom 4 = .ok (.iconst 0, 1) := by decide +kernel
theorem dX2_copyFrom_5 : decode cX2_copyFrom 5 = .ok (.aload_n 0, 1) := by decide +kernel
theorem dX2_copyFrom_6 : decode cX2_copyFrom 6 = .ok (.getfield 11, 3) := by decide +kernel
theorem dX2_copyFrom_9 : decode cX2_copyFrom 9 = .ok (.iconst 0, 1) := by decide +kernel
theorem dX2_copyFrom_10 : decode cX2_copyFrom 10 = .ok (.bipush 100, 2) := by decide +kernel
theorem dX2_copyFrom_12 : decode cX2_copyFrom 12 = .ok (.invokestatic 26, 3) := by decide +kernel
theorem dX2_copyFrom_15 : decode cX2_copyFrom 15 = .ok (.aload_n 0, 1) := by decide +kernel
theorem dX2_copyFrom_16 : decode cX2_copyFrom 16 = .ok (.aload_n 1, 1) := by decide +kernel
theorem dX2_copyFrom_17 : decode cX2_copyFrom 17 = .ok (.getfield 22, 3) := by decide +kernel
theorem dX2_copyFrom_20 : decode cX2_copyFrom 20 = .ok (.putfield 22, 3) := by decide +kernel
theorem dX2_copyFrom_23 : decode cX2_copyFrom 23 = .ok (.return_, 1) := by decide +kernel
theorem dX2_tell_0 : decode cX2_tell 0 = .ok (.aload_n 0, 1) := by decide +kernel
theorem dX2_tell_1 : decode cX2_tell 1 = .ok (.getfield 22, 3) := by decide +kernel
theorem dX2_tell_4 : decode cX2_tell 4 = .ok (.ifCond .ne 18, 3) := by decide +kernel
theorem dX2_tell_7 : decode cX2_tell 7 = .ok (.aload_n 0, 1) := by decide +kernel
theorem dX2_tell_8 : decode cX2_tell 8 = .ok (.getfield 11, 3) := by decide +kernel
theorem dX2_tell_11 : decode cX2_tell 11 = .ok (.iload_n 1, 1) := by decide +kernel
theorem dX2_tell_12 : decode cX2_tell 12 = .ok (.bipush 10, 2) := by decide +kernel
theorem dX2_tell_14 : decode cX2_tell 14 = .ok (.imul, 1) := by decide +kernel
theorem dX2_tell_15 : decode cX2_tell 15 = .ok (.iload_n 2, 1) := by decide +kernel
theorem dX2_tell_16 : decode cX2_tell 16 = .ok (.iadd, 1) := by decide +kernel
theorem dX2_tell_17 : decode cX2_tell 17 = .ok (.iaload, 1) := by decide +kernel
theorem dX2_tell_18 : decode cX2_tell 18 = .ok (.iload_n 3, 1) := by decide +kernel
theorem dX2_tell_19 : decode cX2_tell 19 = .ok (.if_icmp .gt 4, 3) := by decide +kernel
theorem dX2_tell_22 : decode cX2_tell 22 = .ok (.return_, 1) := by decide +kernel
theorem dX2_tell_23 : decode cX2_tell 23 = .ok (.aload_n 0, 1) := by decide +kernel
theorem dX2_tell_24 : decode cX2_tell 24 = .ok (.getfield 11, 3) := by decide +kernel
theorem dX2_tell_27 : decode cX2_tell 27 = .ok (.iload_n 2, 1) := by decide +kernel
theorem dX2_tell_28 : decode cX2_tell 28 = .ok (.bipush 10, 2) := by decide +kernel
theorem dX2_tell_30 : decode cX2_tell 30 = .ok (.imul, 1) := by decide +kernel
theorem dX2_tell_31 : decode cX2_tell 31 = .ok (.iload_n 1, 1) := by decide +kernel
theorem dX2_tell_32 : decode cX2_tell 32 = .ok (.iadd, 1) := by decide +kernel
theorem dX2_tell_33 : decode cX2_tell 33 = .ok (.iaload, 1) := by decide +kernel
theorem dX2_tell_34 : decode cX2_tell 34 = .ok (.istore 4, 2) := by decide +kernel
theorem dX2_tell_36 : decode cX2_tell 36 = .ok (.iload 4, 2) := by decide +kernel
theorem dX2_tell_38 : decode cX2_tell 38 = .ok (.ldc 15, 2) := by decide +kernel
theorem dX2_tell_40 : decode cX2_tell 40 = .ok (.if_icmp .eq 16, 3) := by decide +kernel
theorem dX2_tell_43 : decode cX2_tell 43 = .ok (.iload 4, 2) := by decide +kernel
theorem dX2_tell_45 : decode cX2_tell 45 = .ok (.iload_n 3, 1) := by decide +kernel
theorem dX2_tell_46 : decode cX2_tell 46 = .ok (.iadd, 1) := by decide +kernel
theorem dX2_tell_47 : decode cX2_tell 47 = .ok (.ifCond .ge 9, 3) := by decide +kernel
theorem dX2_tell_50 : decode cX2_tell 50 = .ok (.aload_n 0, 1) := by decide +kernel
theorem dX2_tell_51 : decode cX2_tell 51 = .ok (.iconst 1, 1) := by decide +kernel
theorem dX2_tell_52 : decode cX2_tell 52 = .ok (.putfield 22, 3) := by decide +kernel
theorem dX2_tell_55 : decode cX2_tell 55 = .ok (.return_, 1) := by decide +kernel
theorem dX2_tell_56 : decode cX2_tell 56 = .ok (.iconst 0, 1) := by decide +kernel
theorem dX2_tell_57 : decode cX2_tell 57 = .ok (.istore 5, 2) := by decide +kernel
theorem dX2_tell_59 : decode cX2_tell 59 = .ok (.iload 5, 2) := by decide +kernel
theorem dX2_tell_61 : decode cX2_tell 61 = .ok (.bipush 10, 2) := by decide +kernel
theorem dX2_tell_63 : decode cX2_tell 63 = .ok (.if_icmp .ge 118, 3) := by decide +kernel
theorem dX2_tell_66 : decode cX2_tell 66 = .ok (.aload_n 0, 1) := by decide +kernel
theorem dX2_tell_67 : decode cX2_tell 67 = .ok (.getfield 11, 3) := by decide +kernel
theorem dX2_tell_70 : decode cX2_tell 70 = .ok (.iload 5, 2) := by decide +kernel
theorem dX2_tell_72 : decode cX2_tell 72 = .ok (.bipush 10, 2) := by decide +kernel
theorem dX2_tell_74 : decode cX2_tell 74 = .ok (.imul, 1) := by decide +kernel
theorem dX2_tell_75 : decode cX2_tell 75 = .ok (.iload_n 1, 1) := by decide +kernel
theorem dX2_tell_76 : decode cX2_tell 76 = .ok (.iadd, 1) := by decide +kernel
theorem dX2_tell_77 : decode cX2_tell 77 = .ok (.iaload, 1) := by decide +kernel
theorem dX2_tell_78 : decode cX2_tell 78 = .ok (.iload_n 3, 1) := by decide +kernel
theorem dX2_tell_79 : decode cX2_tell 79 = .ok (.iadd, 1) := by decide +kernel
theorem dX2_tell_80 : decode cX2_tell 80 = .ok (.istore 6, 2) := by decide +kernel
theorem dX2_tell_82 : decode cX2_tell 82 = .ok (.iconst 0, 1) := by decide +kernel
theorem dX2_tell_83 : decode cX2_tell 83 = .ok (.istore 7, 2) := by decide +kernel
theorem dX2_tell_85 : decode cX2_tell 85 = .ok (.iload 7, 2) := by decide +kernel
theorem dX2_tell_87 : decode cX2_tell 87 = .ok (.bipush 10, 2) := by decide +kernel
theorem dX2_tell_89 : decode cX2_tell 89 = .ok (.if_icmp .ge 86, 3) := by decide +kernel
theorem dX2_tell_92 : decode cX2_tell 92 = .ok (.aload_n 0, 1) := by decide +kernel
theorem dX2_tell_93 : decode cX2_tell 93 = .ok (.getfield 11, 3) := by decide +kernel
theorem dX2_tell_96 : decode cX2_tell 96 = .ok (.iload 5, 2) := by decide +kernel
theorem dX2_tell_98 : decode cX2_tell 98 = .ok (.bipush 10, 2) := by decide +kernel
theorem dX2_tell_100 : decode cX2_tell 100 = .ok (.imul, 1) := by decide +kernel
theorem dX2_tell_101 : decode cX2_tell 101 = .ok (.iload_n 1, 1) := by decide +kernel
theorem dX2_tell_102 : decode cX2_tell 102 = .ok (.iadd, 1) := by decide +kernel
theorem dX2_tell_103 : decode cX2_tell 103 = .ok (.iaload, 1) := by decide +kernel
theorem dX2_tell_104 : decode cX2_tell 104 = .ok (.ldc 15, 2) := by decide +kernel
theorem dX2_tell_106 : decode cX2_tell 106 = .ok (.if_icmp .eq 69, 3) := by decide +kernel
theorem dX2_tell_109 : decode cX2_tell 109 = .ok (.aload_n 0, 1) := by decide +kernel
theorem dX2_tell_110 : decode cX2_tell 110 = .ok (.getfield 11, 3) := by decide +kernel
theorem dX2_tell_113 : decode cX2_tell 113 = .ok (.iload_n 2, 1) := by decide +kernel
theorem dX2_tell_114 : decode cX2_tell 114 = .ok (.bipush 10, 2) := by decide +kernel
theorem dX2_tell_116 : decode cX2_tell 116 = .ok (.imul, 1) := by decide +kernel
theorem dX2_tell_117 : decode cX2_tell 117 = .ok (.iload 7, 2) := by decide +kernel
theorem dX2_tell_119 : decode cX2_tell 119 = .ok (.iadd, 1) := by decide +kernel
theorem dX2_tell_120 : decode cX2_tell 120 = .ok (.iaload, 1) := by decide +kernel
theorem dX2_tell_121 : decode cX2_tell 121 = .ok (.istore 8, 2) := by decide +kernel
theorem dX2_tell_123 : decode cX2_tell 123 = .ok (.iload 8, 2) := by decide +kernel
theorem dX2_tell_125 : decode cX2_tell 125 = .ok (.ldc 15, 2) := by decide +kernel
theorem dX2_tell_127 : decode cX2_tell 127 = .ok (.if_icmp .eq 42, 3) := by decide +kernel
theorem dX2_tell_130 : decode cX2_tell 130 = .ok (.iload 6, 2) := by decide +kernel
theorem dX2_tell_132 : decode cX2_tell 132 = .ok (.iload 8, 2) := by decide +kernel
theorem dX2_tell_134 : decode cX2_tell 134 = .ok (.iadd, 1) := by decide +kernel
theorem dX2_tell_135 : decode cX2_tell 135 = .ok (.aload_n 0, 1) := by decide +kernel
theorem dX2_tell_136 : decode cX2_tell 136 = .ok (.getfield 11, 3) := by decide +kernel
theorem dX2_tell_139 : decode cX2_tell 139 = .ok (.iload 5, 2) := by decide +kernel
theorem dX2_tell_141 : decode cX2_tell 141 = .ok (.bipush 10, 2) := by decide +kernel
theorem dX2_tell_143 : decode cX2_tell 143 = .ok (.imul, 1) := by decide +kernel
theorem dX2_tell_144 : decode cX2_tell 144 = .ok (.iload 7, 2) := by decide +kernel
theorem dX2_tell_146 : decode cX2_tell 146 = .ok (.iadd, 1) := by decide +kernel
theorem dX2_tell_147 : decode cX2_tell 147 = .ok (.iaload, 1) := by decide +kernel
theorem dX2_tell_148 : decode cX2_tell 148 = .ok (.if_icmp .ge 21, 3) := by decide +kernel
theorem dX2_tell_151 : decode cX2_tell 151 = .ok (.aload_n 0, 1) := by decide +kernel
theorem dX2_tell_152 : decode cX2_tell 152 = .ok (.getfield 11, 3) := by decide +kernel
theorem dX2_tell_155 : decode cX2_tell 155 = .ok (.iload 5, 2) := by decide +kernel
theorem dX2_tell_157 : decode cX2_tell 157 = .ok (.bipush 10, 2) := by decide +kernel
theorem dX2_tell_159 : decode cX2_tell 159 = .ok (.imul, 1) := by decide +kernel
theorem dX2_tell_160 : decode cX2_tell 160 = .ok (.iload 7, 2) := by decide +kernel
theorem dX2_tell_162 : decode cX2_tell 162 = .ok (.iadd, 1) := by decide +kernel
theorem dX2_tell_163 : decode cX2_tell 163 = .ok (.iload 6, 2) := by decide +kernel
theorem dX2_tell_165 : decode cX2_tell 165 = .ok (.iload 8, 2) := by decide +kernel
theorem dX2_tell_167 : decode cX2_tell 167 = .ok (.iadd, 1) := by decide +kernel
theorem dX2_tell_168 : decode cX2_tell 168 = .ok (.iastore, 1) := by decide +kernel
theorem dX2_tell_169 : decode cX2_tell 169 = .ok (.iinc 7 1, 3) := by decide +kernel
theorem dX2_tell_172 : decode cX2_tell 172 = .ok (.goto (-87), 3) := by decide +kernel
theorem dX2_tell_175 : decode cX2_tell 175 = .ok (.iinc 5 1, 3) := by decide +kernel
theorem dX2_tell_178 : decode cX2_tell 178 = .ok (.goto (-119), 3) := by decide +kernel
theorem dX2_tell_181 : decode cX2_tell 181 = .ok (.return_, 1) := by decide +kernel
theorem dX2_tellLate_0 : decode cX2_tellLate 0 = .ok (.aload_n 0, 1) := by decide +kernel
theorem dX2_tellLate_1 : decode cX2_tellLate 1 = .ok (.iconst 1, 1) := by decide +kernel
theorem dX2_tellLate_2 : decode cX2_tellLate 2 = .ok (.iload_n 1, 1) := by decide +kernel
theorem dX2_tellLate_3 : decode cX2_tellLate 3 = .ok (.iadd, 1) := by decide +kernel
theorem dX2_tellLate_4 : decode cX2_tellLate 4 = .ok (.iconst 0, 1) := by decide +kernel
theorem dX2_tellLate_5 : decode cX2_tellLate 5 = .ok (.iload_n 2, 1) := by decide +kernel
theorem dX2_tellLate_6 : decode cX2_tellLate 6 = .ok (.ineg, 1) := by decide +kernel
theorem dX2_tellLate_7 : decode cX2_tellLate 7 = .ok (.invokevirtual 32, 3) := by decide +kernel
theorem dX2_tellLate_10 : decode cX2_tellLate 10 = .ok (.aload_n 0, 1) := by decide +kernel
theorem dX2_tellLate_11 : decode cX2_tellLate 11 = .ok (.iconst 0, 1) := by decide +kernel
theorem dX2_tellLate_12 : decode cX2_tellLate 12 = .ok (.iconst 1, 1) := by decide +kernel
theorem dX2_tellLate_13 : decode cX2_tellLate 13 = .ok (.iload_n 1, 1) := by decide +kernel
theorem dX2_tellLate_14 : decode cX2_tellLate 14 = .ok (.iadd, 1) := by decide +kernel
theorem dX2_tellLate_15 : decode cX2_tellLate 15 = .ok (.iload_n 3, 1) := by decide +kernel
theorem dX2_tellLate_16 : decode cX2_tellLate 16 = .ok (.invokevirtual 32, 3) := by decide +kernel
theorem dX2_tellLate_19 : decode cX2_tellLate 19 = .ok (.return_, 1) := by decide +kernel
theorem dX2_tellFlash_0 : decode cX2_tellFlash 0 = .ok (.aload_n 0, 1) := by decide +kernel
theorem dX2_tellFlash_1 : decode cX2_tellFlash 1 = .ok (.iconst 1, 1) := by decide +kernel
theorem dX2_tellFlash_2 : decode cX2_tellFlash 2 = .ok (.iload_n 1, 1) := by decide +kernel
theorem dX2_tellFlash_3 : decode cX2_tellFlash 3 = .ok (.iadd, 1) := by decide +kernel
theorem dX2_tellFlash_4 : decode cX2_tellFlash 4 = .ok (.iconst 1, 1) := by decide +kernel
theorem dX2_tellFlash_5 : decode cX2_tellFlash 5 = .ok (.iload_n 3, 1) := by decide +kernel
theorem dX2_tellFlash_6 : decode cX2_tellFlash 6 = .ok (.iadd, 1) := by decide +kernel
theorem dX2_tellFlash_7 : decode cX2_tellFlash 7 = .ok (.iload 4, 2) := by decide +kernel
theorem dX2_tellFlash_9 : decode cX2_tellFlash 9 = .ok (.iload_n 2, 1) := by decide +kernel
theorem dX2_tellFlash_10 : decode cX2_tellFlash 10 = .ok (.isub, 1) := by decide +kernel
theorem dX2_tellFlash_11 : decode cX2_tellFlash 11 = .ok (.invokevirtual 32, 3) := by decide +kernel
theorem dX2_tellFlash_14 : decode cX2_tellFlash 14 = .ok (.aload_n 0, 1) := by decide +kernel
theorem dX2_tellFlash_15 : decode cX2_tellFlash 15 = .ok (.iconst 1, 1) := by decide +kernel
theorem dX2_tellFlash_16 : decode cX2_tellFlash 16 = .ok (.iload_n 3, 1) := by decide +kernel
theorem dX2_tellFlash_17 : decode cX2_tellFlash 17 = .ok (.iadd, 1) := by decide +kernel
theorem dX2_tellFlash_18 : decode cX2_tellFlash 18 = .ok (.iconst 1, 1) := by decide +kernel
theorem dX2_tellFlash_19 : decode cX2_tellFlash 19 = .ok (.iload_n 1, 1) := by decide +kernel
theorem dX2_tellFlash_20 : decode cX2_tellFlash 20 = .ok (.iadd, 1) := by decide +kernel
theorem dX2_tellFlash_21 : decode cX2_tellFlash 21 = .ok (.iload_n 2, 1) := by decide +kernel
theorem dX2_tellFlash_22 : decode cX2_tellFlash 22 = .ok (.iload 4, 2) := by decide +kernel
theorem dX2_tellFlash_24 : decode cX2_tellFlash 24 = .ok (.isub, 1) := by decide +kernel
theorem dX2_tellFlash_25 : decode cX2_tellFlash 25 = .ok (.invokevirtual 32, 3) := by decide +kernel
theorem dX2_tellFlash_28 : decode cX2_tellFlash 28 = .ok (.return_, 1) := by decide +kernel
theorem dX2_markLess_0 : decode cX2_markLess 0 = .ok (.aload_n 0, 1) := by decide +kernel
theorem dX2_markLess_1 : decode cX2_markLess 1 = .ok (.getfield 11, 3) := by decide +kernel
theorem dX2_markLess_4 : decode cX2_markLess 4 = .ok (.bipush 6, 2) := by decide +kernel
theorem dX2_markLess_6 : decode cX2_markLess 6 = .ok (.iload_n 1, 1) := by decide +kernel
theorem dX2_markLess_7 : decode cX2_markLess 7 = .ok (.iadd, 1) := by decide +kernel
theorem dX2_markLess_8 : decode cX2_markLess 8 = .ok (.bipush 10, 2) := by decide +kernel
theorem dX2_markLess_10 : decode cX2_markLess 10 = .ok (.imul, 1) := by decide +kernel
theorem dX2_markLess_11 : decode cX2_markLess 11 = .ok (.bipush 6, 2) := by decide +kernel
theorem dX2_markLess_13 : decode cX2_markLess 13 = .ok (.iadd, 1) := by decide +kernel
theorem dX2_markLess_14 : decode cX2_markLess 14 = .ok (.iload_n 2, 1) := by decide +kernel
theorem dX2_markLess_15 : decode cX2_markLess 15 = .ok (.iadd, 1) := by decide +kernel
theorem dX2_markLess_16 : decode cX2_markLess 16 = .ok (.iaload, 1) := by decide +kernel
theorem dX2_markLess_17 : decode cX2_markLess 17 = .ok (.ireturn, 1) := by decide +kernel
theorem dX2_lateLeast_0 : decode cX2_lateLeast 0 = .ok (.aload_n 0, 1) := by decide +kernel
theorem dX2_lateLeast_1 : decode cX2_lateLeast 1 = .ok (.getfield 11, 3) := by decide +kernel
theorem dX2_lateLeast_4 : decode cX2_lateLeast 4 = .ok (.iconst 1, 1) := by decide +kernel
theorem dX2_lateLeast_5 : decode cX2_lateLeast 5 = .ok (.iload_n 1, 1) := by decide +kernel
theorem dX2_lateLeast_6 : decode cX2_lateLeast 6 = .ok (.iadd, 1) := by decide +kernel
theorem dX2_lateLeast_7 : decode cX2_lateLeast 7 = .ok (.bipush 10, 2) := by decide +kernel
theorem dX2_lateLeast_9 : decode cX2_lateLeast 9 = .ok (.imul, 1) := by decide +kernel
theorem dX2_lateLeast_10 : decode cX2_lateLeast 10 = .ok (.iconst 0, 1) := by decide +kernel
theorem dX2_lateLeast_11 : decode cX2_lateLeast 11 = .ok (.iadd, 1) := by decide +kernel
theorem dX2_lateLeast_12 : decode cX2_lateLeast 12 = .ok (.iaload, 1) := by decide +kernel
theorem dX2_lateLeast_13 : decode cX2_lateLeast 13 = .ok (.ineg, 1) := by decide +kernel
theorem dX2_lateLeast_14 : decode cX2_lateLeast 14 = .ok (.ireturn, 1) := by decide +kernel
theorem dX2_lateMost_0 : decode cX2_lateMost 0 = .ok (.aload_n 0, 1) := by decide +kernel
theorem dX2_lateMost_1 : decode cX2_lateMost 1 = .ok (.getfield 11, 3) := by decide +kernel
theorem dX2_lateMost_4 : decode cX2_lateMost 4 = .ok (.iconst 1, 1) := by decide +kernel
theorem dX2_lateMost_5 : decode cX2_lateMost 5 = .ok (.iload_n 1, 1) := by decide +kernel
theorem dX2_lateMost_6 : decode cX2_lateMost 6 = .ok (.iadd, 1) := by decide +kernel
theorem dX2_lateMost_7 : decode cX2_lateMost 7 = .ok (.iaload, 1) := by decide +kernel
theorem dX2_lateMost_8 : decode cX2_lateMost 8 = .ok (.ireturn, 1) := by decide +kernel
theorem dX3_init_0 : decode cX3_init 0 = .ok (.aload_n 0, 1) := by decide +kernel
theorem dX3_init_1 : decode cX3_init 1 = .ok (.invokespecial 3, 3) := by decide +kernel
theorem dX3_init_4 : decode cX3_init 4 = .ok (.aload_n 0, 1) := by decide +kernel
theorem dX3_init_5 : decode cX3_init 5 = .ok (.bipush 8, 2) := by decide +kernel
theorem dX3_init_7 : decode cX3_init 7 = .ok (.newarray .int, 2) := by decide +kernel
theorem dX3_init_9 : decode cX3_init 9 = .ok (.putfield 9, 3) := by decide +kernel
theorem dX3_init_12 : decode cX3_init 12 = .ok (.aload_n 0, 1) := by decide +kernel
theorem dX3_init_13 : decode cX3_init 13 = .ok (.iconst 4, 1) := by decide +kernel
theorem dX3_init_14 : decode cX3_init 14 = .ok (.newarray .int, 2) := by decide +kernel
theorem dX3_init_16 : decode cX3_init 16 = .ok (.putfield 15, 3) := by decide +kernel
theorem dX3_init_19 : decode cX3_init 19 = .ok (.aload_n 0, 1) := by decide +kernel
theorem dX3_init_20 : decode cX3_init 20 = .ok (.iconst 4, 1) := by decide +kernel
theorem dX3_init_21 : decode cX3_init 21 = .ok (.newarray .int, 2) := by decide +kernel
theorem dX3_init_23 : decode cX3_init 23 = .ok (.putfield 18, 3) := by decide +kernel
theorem dX3_init_26 : decode cX3_init 26 = .ok (.aload_n 0, 1) := by decide +kernel
theorem dX3_init_27 : decode cX3_init 27 = .ok (.bipush 8, 2) := by decide +kernel
theorem dX3_init_29 : decode cX3_init 29 = .ok (.newarray .int, 2) := by decide +kernel
theorem dX3_init_31 : decode cX3_init 31 = .ok (.putfield 21, 3) := by decide +kernel
theorem dX3_init_34 : decode cX3_init 34 = .ok (.aload_n 0, 1) := by decide +kernel
theorem dX3_init_35 : decode cX3_init 35 = .ok (.bipush 64, 2) := by decide +kernel
theorem dX3_init_37 : decode cX3_init 37 = .ok (.newarray .int, 2) := by decide +kernel
theorem dX3_init_39 : decode cX3_init 39 = .ok (.putfield 24, 3) := by decide +kernel
theorem dX3_init_42 : decode cX3_init 42 = .ok (.return_, 1) := by decide +kernel
theorem dX3_begin_0 : decode cX3_begin 0 = .ok (.aload_n 0, 1) := by decide +kernel
theorem dX3_begin_1 : decode cX3_begin 1 = .ok (.iconst 0, 1) := by decide +kernel
theorem dX3_begin_2 : decode cX3_begin 2 = .ok (.putfield 27, 3) := by decide +kernel
theorem dX3_begin_5 : decode cX3_begin 5 = .ok (.aload_n 0, 1) := by decide +kernel
theorem dX3_begin_6 : decode cX3_begin 6 = .ok (.iconst 0, 1) := by decide +kernel
theorem dX3_begin_7 : decode cX3_begin 7 = .ok (.putfield 31, 3) := by decide +kernel
theorem dX3_begin_10 : decode cX3_begin 10 = .ok (.aload_n 0, 1) := by decide +kernel
theorem dX3_begin_11 : decode cX3_begin 11 = .ok (.iconst 0, 1) := by decide +kernel
theorem dX3_begin_12 : decode cX3_begin 12 = .ok (.putfield 34, 3) := by decide +kernel
theorem dX3_begin_15 : decode cX3_begin 15 = .ok (.aload_n 0, 1) := by decide +kernel
theorem dX3_begin_16 : decode cX3_begin 16 = .ok (.iconst 0, 1) := by decide +kernel
theorem dX3_begin_17 : decode cX3_begin 17 = .ok (.putfield 37, 3) := by decide +kernel
theorem dX3_begin_20 : decode cX3_begin 20 = .ok (.iconst 0, 1) := by decide +kernel
theorem dX3_begin_21 : decode cX3_begin 21 = .ok (.istore_n 2, 1) := by decide +kernel
theorem dX3_begin_22 : decode cX3_begin 22 = .ok (.iload_n 2, 1) := by decide +kernel
theorem dX3_begin_23 : decode cX3_begin 23 = .ok (.iconst 4, 1) := by decide +kernel
theorem dX3_begin_24 : decode cX3_begin 24 = .ok (.if_icmp .ge 40, 3) := by decide +kernel
theorem dX3_begin_27 : decode cX3_begin 27 = .ok (.aload_n 0, 1) := by decide +kernel
theorem dX3_begin_28 : decode cX3_begin 28 = .ok (.getfield 15, 3) := by decide +kernel
theorem dX3_begin_31 : decode cX3_begin 31 = .ok (.iload_n 2, 1) := by decide +kernel
theorem dX3_begin_32 : decode cX3_begin 32 = .ok (.iload_n 2, 1) := by decide +kernel
theorem dX3_begin_33 : decode cX3_begin 33 = .ok (.aload_n 1, 1) := by decide +kernel
theorem dX3_begin_34 : decode cX3_begin 34 = .ok (.getfield 40, 3) := by decide +kernel
theorem dX3_begin_37 : decode cX3_begin 37 = .ok (.if_icmp .ge 12, 3) := by decide +kernel
theorem dX3_begin_40 : decode cX3_begin 40 = .ok (.aload_n 1, 1) := by decide +kernel
theorem dX3_begin_41 : decode cX3_begin 41 = .ok (.getfield 45, 3) := by decide +kernel
theorem dX3_begin_44 : decode cX3_begin 44 = .ok (.iload_n 2, 1) := by decide +kernel
theorem dX3_begin_45 : decode cX3_begin 45 = .ok (.iaload, 1) := by decide +kernel
theorem dX3_begin_46 : decode cX3_begin 46 = .ok (.goto 4, 3) := by decide +kernel
theorem dX3_begin_49 : decode cX3_begin 49 = .ok (.iconst 0, 1) := by decide +kernel
theorem dX3_begin_50 : decode cX3_begin 50 = .ok (.iastore, 1) := by decide +kernel
theorem dX3_begin_51 : decode cX3_begin 51 = .ok (.aload_n 0, 1) := by decide +kernel
theorem dX3_begin_52 : decode cX3_begin 52 = .ok (.getfield 18, 3) := by decide +kernel
theorem dX3_begin_55 : decode cX3_begin 55 = .ok (.iload_n 2, 1) := by decide +kernel
theorem dX3_begin_56 : decode cX3_begin 56 = .ok (.iconst 0, 1) := by decide +kernel
theorem dX3_begin_57 : decode cX3_begin 57 = .ok (.iastore, 1) := by decide +kernel
theorem dX3_begin_58 : decode cX3_begin 58 = .ok (.iinc 2 1, 3) := by decide +kernel
theorem dX3_begin_61 : decode cX3_begin 61 = .ok (.goto (-39), 3) := by decide +kernel
theorem dX3_begin_64 : decode cX3_begin 64 = .ok (.aload_n 0, 1) := by decide +kernel
theorem dX3_begin_65 : decode cX3_begin 65 = .ok (.getfield 21, 3) := by decide +kernel
theorem dX3_begin_68 : decode cX3_begin 68 = .ok (.iconst 0, 1) := by decide +kernel
theorem dX3_begin_69 : decode cX3_begin 69 = .ok (.invokestatic 48, 3) := by decide +kernel
theorem dX3_begin_72 : decode cX3_begin 72 = .ok (.aload_n 0, 1) := by decide +kernel
theorem dX3_begin_73 : decode cX3_begin 73 = .ok (.iconst 0, 1) := by decide +kernel
theorem dX3_begin_74 : decode cX3_begin 74 = .ok (.putfield 54, 3) := by decide +kernel
theorem dX3_begin_77 : decode cX3_begin 77 = .ok (.return_, 1) := by decide +kernel
theorem dX3_call_0 : decode cX3_call 0 = .ok (.aload_n 0, 1) := by decide +kernel
theorem dX3_call_1 : decode cX3_call 1 = .ok (.getfield 31, 3) := by decide +kernel
theorem dX3_call_4 : decode cX3_call 4 = .ok (.iload_n 1, 1) := by decide +kernel
theorem dX3_call_5 : decode cX3_call 5 = .ok (.ishr, 1) := by decide +kernel
theorem dX3_call_6 : decode cX3_call 6 = .ok (.iconst 1, 1) := by decide +kernel
theorem dX3_call_7 : decode cX3_call 7 = .ok (.iand, 1) := by decide +kernel
theorem dX3_call_8 : decode cX3_call 8 = .ok (.ireturn, 1) := by decide +kernel
theorem dX3_isReviewed_0 : decode cX3_isReviewed 0 = .ok (.aload_n 0, 1) := by decide +kernel
theorem dX3_isReviewed_1 : decode cX3_isReviewed 1 = .ok (.getfield 34, 3) := by decide +kernel
theorem dX3_isReviewed_4 : decode cX3_isReviewed 4 = .ok (.iload_n 1, 1) := by decide +kernel
theorem dX3_isReviewed_5 : decode cX3_isReviewed 5 = .ok (.ishr, 1) := by decide +kernel
theorem dX3_isReviewed_6 : decode cX3_isReviewed 6 = .ok (.iconst 1, 1) := by decide +kernel
theorem dX3_isReviewed_7 : decode cX3_isReviewed 7 = .ok (.iand, 1) := by decide +kernel
theorem dX3_isReviewed_8 : decode cX3_isReviewed 8 = .ok (.ifCond .eq 7, 3) := by decide +kernel
theorem dX3_isReviewed_11 : decode cX3_isReviewed 11 = .ok (.iconst 1, 1) := by decide +kernel
theorem dX3_isReviewed_12 : decode cX3_isReviewed 12 = .ok (.goto 4, 3) := by decide +kernel
theorem dX3_isReviewed_15 : decode cX3_isReviewed 15 = .ok (.iconst 0, 1) := by decide +kernel
theorem dX3_isReviewed_16 : decode cX3_isReviewed 16 = .ok (.ireturn, 1) := by decide +kernel
theorem dX3_isBoarded_0 : decode cX3_isBoarded 0 = .ok (.aload_n 0, 1) := by decide +kernel
theorem dX3_isBoarded_1 : decode cX3_isBoarded 1 = .ok (.getfield 37, 3) := by decide +kernel
theorem dX3_isBoarded_4 : decode cX3_isBoarded 4 = .ok (.iload_n 1, 1) := by decide +kernel
theorem dX3_isBoarded_5 : decode cX3_isBoarded 5 = .ok (.ishr, 1) := by decide +kernel
theorem dX3_isBoarded_6 : decode cX3_isBoarded 6 = .ok (.iconst 1, 1) := by decide +kernel
theorem dX3_isBoarded_7 : decode cX3_isBoarded 7 = .ok (.iand, 1) := by decide +kernel
theorem dX3_isBoarded_8 : decode cX3_isBoarded 8 = .ok (.ifCond .eq 7, 3) := by decide +kernel
theorem dX3_isBoarded_11 : decode cX3_isBoarded 11 = .ok (.iconst 1, 1) := by decide +kernel
theorem dX3_isBoarded_12 : decode cX3_isBoarded 12 = .ok (.goto 4, 3) := by decide +kernel
theorem dX3_isBoarded_15 : decode cX3_isBoarded 15 = .ok (.iconst 0, 1) := by decide +kernel
theorem dX3_isBoarded_16 : decode cX3_isBoarded 16 = .ok (.ireturn, 1) := by decide +kernel
theorem dX4_init_0 : decode cX4_init 0 = .ok (.aload_n 0, 1) := by decide +kernel
theorem dX4_init_1 : decode cX4_init 1 = .ok (.invokespecial 3, 3) := by decide +kernel
theorem dX4_init_4 : decode cX4_init 4 = .ok (.aload_n 0, 1) := by decide +kernel
theorem dX4_init_5 : decode cX4_init 5 = .ok (.new 9, 3) := by decide +kernel
theorem dX4_init_8 : decode cX4_init 8 = .ok (.dup, 1) := by decide +kernel
theorem dX4_init_9 : decode cX4_init 9 = .ok (.invokespecial 11, 3) := by decide +kernel
theorem dX4_init_12 : decode cX4_init 12 = .ok (.putfield 12, 3) := by decide +kernel
theorem dX4_init_15 : decode cX4_init 15 = .ok (.aload_n 0, 1) := by decide +kernel
theorem dX4_init_16 : decode cX4_init 16 = .ok (.new 9, 3) := by decide +kernel
theorem dX4_init_19 : decode cX4_init 19 = .ok (.dup, 1) := by decide +kernel
theorem dX4_init_20 : decode cX4_init 20 = .ok (.invokespecial 11, 3) := by decide +kernel
theorem dX4_init_23 : decode cX4_init 23 = .ok (.putfield 18, 3) := by decide +kernel
theorem dX4_init_26 : decode cX4_init 26 = .ok (.return_, 1) := by decide +kernel
theorem dX4_sureOf_0 : decode cX4_sureOf 0 = .ok (.aload_n 0, 1) := by decide +kernel
theorem dX4_sureOf_1 : decode cX4_sureOf 1 = .ok (.getfield 12, 3) := by decide +kernel
theorem dX4_sureOf_4 : decode cX4_sureOf 4 = .ok (.aload_n 1, 1) := by decide +kernel
theorem dX4_sureOf_5 : decode cX4_sureOf 5 = .ok (.getfield 21, 3) := by decide +kernel
theorem dX4_sureOf_8 : decode cX4_sureOf 8 = .ok (.invokevirtual 26, 3) := by decide +kernel
theorem dX4_sureOf_11 : decode cX4_sureOf 11 = .ok (.iconst 0, 1) := by decide +kernel
theorem dX4_sureOf_12 : decode cX4_sureOf 12 = .ok (.istore 4, 2) := by decide +kernel
theorem dX4_sureOf_14 : decode cX4_sureOf 14 = .ok (.iload 4, 2) := by decide +kernel
theorem dX4_sureOf_16 : decode cX4_sureOf 16 = .ok (.aload_n 2, 1) := by decide +kernel
theorem dX4_sureOf_17 : decode cX4_sureOf 17 = .ok (.getfield 30, 3) := by decide +kernel
theorem dX4_sureOf_20 : decode cX4_sureOf 20 = .ok (.if_icmp .ge 25, 3) := by decide +kernel
theorem dX4_sureOf_23 : decode cX4_sureOf 23 = .ok (.iload_n 3, 1) := by decide +kernel
theorem dX4_sureOf_24 : decode cX4_sureOf 24 = .ok (.iload 4, 2) := by decide +kernel
theorem dX4_sureOf_26 : decode cX4_sureOf 26 = .ok (.ishr, 1) := by decide +kernel
theorem dX4_sureOf_27 : decode cX4_sureOf 27 = .ok (.iconst 1, 1) := by decide +kernel
theorem dX4_sureOf_28 : decode cX4_sureOf 28 = .ok (.iand, 1) := by decide +kernel
theorem dX4_sureOf_29 : decode cX4_sureOf 29 = .ok (.ifCond .eq 10, 3) := by decide +kernel
theorem dX4_sureOf_32 : decode cX4_sureOf 32 = .ok (.aload_n 0, 1) := by decide +kernel
theorem dX4_sureOf_33 : decode cX4_sureOf 33 = .ok (.aload_n 2, 1) := by decide +kernel
theorem dX4_sureOf_34 : decode cX4_sureOf 34 = .ok (.iload 4, 2) := by decide +kernel
theorem dX4_sureOf_36 : decode cX4_sureOf 36 = .ok (.invokevirtual 36, 3) := by decide +kernel
theorem dX4_sureOf_39 : decode cX4_sureOf 39 = .ok (.iinc 4 1, 3) := by decide +kernel
theorem dX4_sureOf_42 : decode cX4_sureOf 42 = .ok (.goto (-28), 3) := by decide +kernel
theorem dX4_sureOf_45 : decode cX4_sureOf 45 = .ok (.aload_n 0, 1) := by decide +kernel
theorem dX4_sureOf_46 : decode cX4_sureOf 46 = .ok (.getfield 12, 3) := by decide +kernel
theorem dX4_sureOf_49 : decode cX4_sureOf 49 = .ok (.areturn, 1) := by decide +kernel
theorem dX4_tellFrame_0 : decode cX4_tellFrame 0 = .ok (.iconst 1, 1) := by decide +kernel
theorem dX4_tellFrame_1 : decode cX4_tellFrame 1 = .ok (.aload_n 1, 1) := by decide +kernel
theorem dX4_tellFrame_2 : decode cX4_tellFrame 2 = .ok (.getfield 40, 3) := by decide +kernel
theorem dX4_tellFrame_5 : decode cX4_tellFrame 5 = .ok (.iload_n 2, 1) := by decide +kernel
theorem dX4_tellFrame_6 : decode cX4_tellFrame 6 = .ok (.iaload, 1) := by decide +kernel
theorem dX4_tellFrame_7 : decode cX4_tellFrame 7 = .ok (.iadd, 1) := by decide +kernel
theorem dX4_tellFrame_8 : decode cX4_tellFrame 8 = .ok (.istore_n 3, 1) := by decide +kernel
theorem dX4_tellFrame_9 : decode cX4_tellFrame 9 = .ok (.iconst 0, 1) := by decide +kernel
theorem dX4_tellFrame_10 : decode cX4_tellFrame 10 = .ok (.istore 4, 2) := by decide +kernel
theorem dX4_tellFrame_12 : decode cX4_tellFrame 12 = .ok (.iload 4, 2) := by decide +kernel
theorem dX4_tellFrame_14 : decode cX4_tellFrame 14 = .ok (.iconst 4, 1) := by decide +kernel
theorem dX4_tellFrame_15 : decode cX4_tellFrame 15 = .ok (.if_icmp .ge 79, 3) := by decide +kernel
theorem dX4_tellFrame_18 : decode cX4_tellFrame 18 = .ok (.bipush 6, 2) := by decide +kernel
theorem dX4_tellFrame_20 : decode cX4_tellFrame 20 = .ok (.iload 4, 2) := by decide +kernel
theorem dX4_tellFrame_22 : decode cX4_tellFrame 22 = .ok (.iadd, 1) := by decide +kernel
theorem dX4_tellFrame_23 : decode cX4_tellFrame 23 = .ok (.istore 5, 2) := by decide +kernel
theorem dX4_tellFrame_25 : decode cX4_tellFrame 25 = .ok (.aload_n 1, 1) := by decide +kernel
theorem dX4_tellFrame_26 : decode cX4_tellFrame 26 = .ok (.getfield 44, 3) := by decide +kernel
theorem dX4_tellFrame_29 : decode cX4_tellFrame 29 = .ok (.iload_n 2, 1) := by decide +kernel
theorem dX4_tellFrame_30 : decode cX4_tellFrame 30 = .ok (.iaload, 1) := by decide +kernel
theorem dX4_tellFrame_31 : decode cX4_tellFrame 31 = .ok (.iload 4, 2) := by decide +kernel
theorem dX4_tellFrame_33 : decode cX4_tellFrame 33 = .ok (.ishr, 1) := by decide +kernel
theorem dX4_tellFrame_34 : decode cX4_tellFrame 34 = .ok (.iconst 1, 1) := by decide +kernel
theorem dX4_tellFrame_35 : decode cX4_tellFrame 35 = .ok (.iand, 1) := by decide +kernel
theorem dX4_tellFrame_36 : decode cX4_tellFrame 36 = .ok (.ifCond .eq 19, 3) := by decide +kernel
theorem dX4_tellFrame_39 : decode cX4_tellFrame 39 = .ok (.aload_n 0, 1) := by decide +kernel
theorem dX4_tellFrame_40 : decode cX4_tellFrame 40 = .ok (.getfield 12, 3) := by decide +kernel
theorem dX4_tellFrame_43 : decode cX4_tellFrame 43 = .ok (.iload 5, 2) := by decide +kernel
theorem dX4_tellFrame_45 : decode cX4_tellFrame 45 = .ok (.iload_n 3, 1) := by decide +kernel
theorem dX4_tellFrame_46 : decode cX4_tellFrame 46 = .ok (.aload_n 1, 1) := by decide +kernel
theorem dX4_tellFrame_47 : decode cX4_tellFrame 47 = .ok (.getfield 47, 3) := by decide +kernel
theorem dX4_tellFrame_50 : decode cX4_tellFrame 50 = .ok (.iload_n 2, 1) := by decide +kernel
theorem dX4_tellFrame_51 : decode cX4_tellFrame 51 = .ok (.iaload, 1) := by decide +kernel
theorem dX4_tellFrame_52 : decode cX4_tellFrame 52 = .ok (.invokevirtual 50, 3) := by decide +kernel
theorem dX4_tellFrame_55 : decode cX4_tellFrame 55 = .ok (.aload_n 1, 1) := by decide +kernel
theorem dX4_tellFrame_56 : decode cX4_tellFrame 56 = .ok (.getfield 54, 3) := by decide +kernel
theorem dX4_tellFrame_59 : decode cX4_tellFrame 59 = .ok (.iload_n 2, 1) := by decide +kernel
theorem dX4_tellFrame_60 : decode cX4_tellFrame 60 = .ok (.iaload, 1) := by decide +kernel
theorem dX4_tellFrame_61 : decode cX4_tellFrame 61 = .ok (.iload 4, 2) := by decide +kernel
theorem dX4_tellFrame_63 : decode cX4_tellFrame 63 = .ok (.ishr, 1) := by decide +kernel
theorem dX4_tellFrame_64 : decode cX4_tellFrame 64 = .ok (.iconst 1, 1) := by decide +kernel
theorem dX4_tellFrame_65 : decode cX4_tellFrame 65 = .ok (.iand, 1) := by decide +kernel
theorem dX4_tellFrame_66 : decode cX4_tellFrame 66 = .ok (.ifCond .eq 22, 3) := by decide +kernel
theorem dX4_tellFrame_69 : decode cX4_tellFrame 69 = .ok (.aload_n 0, 1) := by decide +kernel
theorem dX4_tellFrame_70 : decode cX4_tellFrame 70 = .ok (.getfield 12, 3) := by decide +kernel
theorem dX4_tellFrame_73 : decode cX4_tellFrame 73 = .ok (.iload_n 3, 1) := by decide +kernel
theorem dX4_tellFrame_74 : decode cX4_tellFrame 74 = .ok (.iload 5, 2) := by decide +kernel
theorem dX4_tellFrame_76 : decode cX4_tellFrame 76 = .ok (.aload_n 1, 1) := by decide +kernel
theorem dX4_tellFrame_77 : decode cX4_tellFrame 77 = .ok (.getfield 47, 3) := by decide +kernel
theorem dX4_tellFrame_80 : decode cX4_tellFrame 80 = .ok (.iload_n 2, 1) := by decide +kernel
theorem dX4_tellFrame_81 : decode cX4_tellFrame 81 = .ok (.iaload, 1) := by decide +kernel
theorem dX4_tellFrame_82 : decode cX4_tellFrame 82 = .ok (.ineg, 1) := by decide +kernel
theorem dX4_tellFrame_83 : decode cX4_tellFrame 83 = .ok (.iconst 1, 1) := by decide +kernel
theorem dX4_tellFrame_84 : decode cX4_tellFrame 84 = .ok (.isub, 1) := by decide +kernel
theorem dX4_tellFrame_85 : decode cX4_tellFrame 85 = .ok (.invokevirtual 50, 3) := by decide +kernel
theorem dX4_tellFrame_88 : decode cX4_tellFrame 88 = .ok (.iinc 4 1, 3) := by decide +kernel
theorem dX4_tellFrame_91 : decode cX4_tellFrame 91 = .ok (.goto (-79), 3) := by decide +kernel
theorem dX4_tellFrame_94 : decode cX4_tellFrame 94 = .ok (.return_, 1) := by decide +kernel
theorem dX4_byFrames_0 : decode cX4_byFrames 0 = .ok (.aload_n 0, 1) := by decide +kernel
theorem dX4_byFrames_1 : decode cX4_byFrames 1 = .ok (.aload_n 1, 1) := by decide +kernel
theorem dX4_byFrames_2 : decode cX4_byFrames 2 = .ok (.aload_n 2, 1) := by decide +kernel
theorem dX4_byFrames_3 : decode cX4_byFrames 3 = .ok (.iload_n 3, 1) := by decide +kernel
theorem dX4_byFrames_4 : decode cX4_byFrames 4 = .ok (.invokevirtual 57, 3) := by decide +kernel
theorem dX4_byFrames_7 : decode cX4_byFrames 7 = .ok (.getfield 61, 3) := by decide +kernel
theorem dX4_byFrames_10 : decode cX4_byFrames 10 = .ok (.ifCond .eq 5, 3) := by decide +kernel
theorem dX4_byFrames_13 : decode cX4_byFrames 13 = .ok (.iconst 3, 1) := by decide +kernel
theorem dX4_byFrames_14 : decode cX4_byFrames 14 = .ok (.ireturn, 1) := by decide +kernel
theorem dX4_byFrames_15 : decode cX4_byFrames 15 = .ok (.aload_n 1, 1) := by decide +kernel
theorem dX4_byFrames_16 : decode cX4_byFrames 16 = .ok (.getfield 65, 3) := by decide +kernel
theorem dX4_byFrames_19 : decode cX4_byFrames 19 = .ok (.aload_n 2, 1) := by decide +kernel
theorem dX4_byFrames_20 : decode cX4_byFrames 20 = .ok (.getfield 69, 3) := by decide +kernel
theorem dX4_byFrames_23 : decode cX4_byFrames 23 = .ok (.aaload, 1) := by decide +kernel
theorem dX4_byFrames_24 : decode cX4_byFrames 24 = .ok (.astore 4, 2) := by decide +kernel
theorem dX4_byFrames_26 : decode cX4_byFrames 26 = .ok (.aload_n 0, 1) := by decide +kernel
theorem dX4_byFrames_27 : decode cX4_byFrames 27 = .ok (.aload 4, 2) := by decide +kernel
theorem dX4_byFrames_29 : decode cX4_byFrames 29 = .ok (.invokevirtual 71, 3) := by decide +kernel
theorem dX4_byFrames_32 : decode cX4_byFrames 32 = .ok (.ifCond .eq 5, 3) := by decide +kernel
theorem dX4_byFrames_35 : decode cX4_byFrames 35 = .ok (.iconst 1, 1) := by decide +kernel
theorem dX4_byFrames_36 : decode cX4_byFrames 36 = .ok (.ireturn, 1) := by decide +kernel
theorem dX4_byFrames_37 : decode cX4_byFrames 37 = .ok (.aload_n 0, 1) := by decide +kernel
theorem dX4_byFrames_38 : decode cX4_byFrames 38 = .ok (.aload 4, 2) := by decide +kernel
theorem dX4_byFrames_40 : decode cX4_byFrames 40 = .ok (.invokevirtual 75, 3) := by decide +kernel
theorem dX4_byFrames_43 : decode cX4_byFrames 43 = .ok (.ifCond .eq 7, 3) := by decide +kernel
theorem dX4_byFrames_46 : decode cX4_byFrames 46 = .ok (.iconst 2, 1) := by decide +kernel
theorem dX4_byFrames_47 : decode cX4_byFrames 47 = .ok (.goto 4, 3) := by decide +kernel
theorem dX4_byFrames_50 : decode cX4_byFrames 50 = .ok (.iconst 0, 1) := by decide +kernel
theorem dX4_byFrames_51 : decode cX4_byFrames 51 = .ok (.ireturn, 1) := by decide +kernel
theorem dX4_mustHold_0 : decode cX4_mustHold 0 = .ok (.iconst 0, 1) := by decide +kernel
theorem dX4_mustHold_1 : decode cX4_mustHold 1 = .ok (.istore_n 2, 1) := by decide +kernel
theorem dX4_mustHold_2 : decode cX4_mustHold 2 = .ok (.iload_n 2, 1) := by decide +kernel
theorem dX4_mustHold_3 : decode cX4_mustHold 3 = .ok (.aload_n 1, 1) := by decide +kernel
theorem dX4_mustHold_4 : decode cX4_mustHold 4 = .ok (.getfield 78, 3) := by decide +kernel
theorem dX4_mustHold_7 : decode cX4_mustHold 7 = .ok (.if_icmp .ge 33, 3) := by decide +kernel
theorem dX4_mustHold_10 : decode cX4_mustHold 10 = .ok (.aload_n 0, 1) := by decide +kernel
theorem dX4_mustHold_11 : decode cX4_mustHold 11 = .ok (.getfield 12, 3) := by decide +kernel
theorem dX4_mustHold_14 : decode cX4_mustHold 14 = .ok (.aload_n 1, 1) := by decide +kernel
theorem dX4_mustHold_15 : decode cX4_mustHold 15 = .ok (.getfield 83, 3) := by decide +kernel
theorem dX4_mustHold_18 : decode cX4_mustHold 18 = .ok (.iload_n 2, 1) := by decide +kernel
theorem dX4_mustHold_19 : decode cX4_mustHold 19 = .ok (.iaload, 1) := by decide +kernel
theorem dX4_mustHold_20 : decode cX4_mustHold 20 = .ok (.aload_n 1, 1) := by decide +kernel
theorem dX4_mustHold_21 : decode cX4_mustHold 21 = .ok (.getfield 86, 3) := by decide +kernel
theorem dX4_mustHold_24 : decode cX4_mustHold 24 = .ok (.iload_n 2, 1) := by decide +kernel
theorem dX4_mustHold_25 : decode cX4_mustHold 25 = .ok (.iaload, 1) := by decide +kernel
theorem dX4_mustHold_26 : decode cX4_mustHold 26 = .ok (.invokevirtual 89, 3) := by decide +kernel
theorem dX4_mustHold_29 : decode cX4_mustHold 29 = .ok (.ifCond .lt 5, 3) := by decide +kernel
theorem dX4_mustHold_32 : decode cX4_mustHold 32 = .ok (.iconst 0, 1) := by decide +kernel
theorem dX4_mustHold_33 : decode cX4_mustHold 33 = .ok (.ireturn, 1) := by decide +kernel
theorem dX4_mustHold_34 : decode cX4_mustHold 34 = .ok (.iinc 2 1, 3) := by decide +kernel
theorem dX4_mustHold_37 : decode cX4_mustHold 37 = .ok (.goto (-35), 3) := by decide +kernel
theorem dX4_mustHold_40 : decode cX4_mustHold 40 = .ok (.iconst 1, 1) := by decide +kernel
theorem dX4_mustHold_41 : decode cX4_mustHold 41 = .ok (.ireturn, 1) := by decide +kernel
theorem dX4_canHold_0 : decode cX4_canHold 0 = .ok (.aload_n 0, 1) := by decide +kernel
theorem dX4_canHold_1 : decode cX4_canHold 1 = .ok (.getfield 18, 3) := by decide +kernel
theorem dX4_canHold_4 : decode cX4_canHold 4 = .ok (.aload_n 0, 1) := by decide +kernel
theorem dX4_canHold_5 : decode cX4_canHold 5 = .ok (.getfield 12, 3) := by decide +kernel
theorem dX4_canHold_8 : decode cX4_canHold 8 = .ok (.invokevirtual 26, 3) := by decide +kernel
theorem dX4_canHold_11 : decode cX4_canHold 11 = .ok (.iconst 0, 1) := by decide +kernel
theorem dX4_canHold_12 : decode cX4_canHold 12 = .ok (.istore_n 2, 1) := by decide +kernel
theorem dX4_canHold_13 : decode cX4_canHold 13 = .ok (.iload_n 2, 1) := by decide +kernel
theorem dX4_canHold_14 : decode cX4_canHold 14 = .ok (.aload_n 1, 1) := by decide +kernel
theorem dX4_canHold_15 : decode cX4_canHold 15 = .ok (.getfield 78, 3) := by decide +kernel
theorem dX4_canHold_18 : decode cX4_canHold 18 = .ok (.if_icmp .ge 35, 3) := by decide +kernel
theorem dX4_canHold_21 : decode cX4_canHold 21 = .ok (.aload_n 0, 1) := by decide +kernel
theorem dX4_canHold_22 : decode cX4_canHold 22 = .ok (.getfield 18, 3) := by decide +kernel
theorem dX4_canHold_25 : decode cX4_canHold 25 = .ok (.bipush 6, 2) := by decide +kernel
theorem dX4_canHold_27 : decode cX4_canHold 27 = .ok (.aload_n 1, 1) := by decide +kernel
theorem dX4_canHold_28 : decode cX4_canHold 28 = .ok (.getfield 83, 3) := by decide +kernel
theorem dX4_canHold_31 : decode cX4_canHold 31 = .ok (.iload_n 2, 1) := by decide +kernel
theorem dX4_canHold_32 : decode cX4_canHold 32 = .ok (.iaload, 1) := by decide +kernel
theorem dX4_canHold_33 : decode cX4_canHold 33 = .ok (.iadd, 1) := by decide +kernel
theorem dX4_canHold_34 : decode cX4_canHold 34 = .ok (.bipush 6, 2) := by decide +kernel
theorem dX4_canHold_36 : decode cX4_canHold 36 = .ok (.aload_n 1, 1) := by decide +kernel
theorem dX4_canHold_37 : decode cX4_canHold 37 = .ok (.getfield 86, 3) := by decide +kernel
theorem dX4_canHold_40 : decode cX4_canHold 40 = .ok (.iload_n 2, 1) := by decide +kernel
theorem dX4_canHold_41 : decode cX4_canHold 41 = .ok (.iaload, 1) := by decide +kernel
theorem dX4_canHold_42 : decode cX4_canHold 42 = .ok (.iadd, 1) := by decide +kernel
theorem dX4_canHold_43 : decode cX4_canHold 43 = .ok (.iconst (-1), 1) := by decide +kernel
theorem dX4_canHold_44 : decode cX4_canHold 44 = .ok (.invokevirtual 50, 3) := by decide +kernel
theorem dX4_canHold_47 : decode cX4_canHold 47 = .ok (.iinc 2 1, 3) := by decide +kernel
theorem dX4_canHold_50 : decode cX4_canHold 50 = .ok (.goto (-37), 3) := by decide +kernel
theorem dX4_canHold_53 : decode cX4_canHold 53 = .ok (.aload_n 0, 1) := by decide +kernel
theorem dX4_canHold_54 : decode cX4_canHold 54 = .ok (.getfield 18, 3) := by decide +kernel
theorem dX4_canHold_57 : decode cX4_canHold 57 = .ok (.getfield 61, 3) := by decide +kernel
theorem dX4_canHold_60 : decode cX4_canHold 60 = .ok (.ifCond .ne 7, 3) := by decide +kernel
theorem dX4_canHold_63 : decode cX4_canHold 63 = .ok (.iconst 1, 1) := by decide +kernel
theorem dX4_canHold_64 : decode cX4_canHold 64 = .ok (.goto 4, 3) := by decide +kernel
theorem dX4_canHold_67 : decode cX4_canHold 67 = .ok (.iconst 0, 1) := by decide +kernel
theorem dX4_canHold_68 : decode cX4_canHold 68 = .ok (.ireturn, 1) := by decide +kernel
theorem dX4_isSure_0 : decode cX4_isSure 0 = .ok (.iload_n 0, 1) := by decide +kernel
theorem dX4_isSure_1 : decode cX4_isSure 1 = .ok (.iconst 1, 1) := by decide +kernel
theorem dX4_isSure_2 : decode cX4_isSure 2 = .ok (.if_icmp .eq 7, 3) := by decide +kernel
theorem dX4_isSure_5 : decode cX4_isSure 5 = .ok (.iload_n 0, 1) := by decide +kernel
theorem dX4_isSure_6 : decode cX4_isSure 6 = .ok (.ifCond .ne 7, 3) := by decide +kernel
theorem dX4_isSure_9 : decode cX4_isSure 9 = .ok (.iconst 1, 1) := by decide +kernel
theorem dX4_isSure_10 : decode cX4_isSure 10 = .ok (.goto 4, 3) := by decide +kernel
theorem dX4_isSure_13 : decode cX4_isSure 13 = .ok (.iconst 0, 1) := by decide +kernel
theorem dX4_isSure_14 : decode cX4_isSure 14 = .ok (.ireturn, 1) := by decide +kernel
theorem dX4_trueCall_0 : decode cX4_trueCall 0 = .ok (.aload_n 0, 1) := by decide +kernel
theorem dX4_trueCall_1 : decode cX4_trueCall 1 = .ok (.aload_n 1, 1) := by decide +kernel
theorem dX4_trueCall_2 : decode cX4_trueCall 2 = .ok (.aload_n 2, 1) := by decide +kernel
theorem dX4_trueCall_3 : decode cX4_trueCall 3 = .ok (.aload_n 2, 1) := by decide +kernel
theorem dX4_trueCall_4 : decode cX4_trueCall 4 = .ok (.invokevirtual 93, 3) := by decide +kernel
theorem dX4_trueCall_7 : decode cX4_trueCall 7 = .ok (.invokevirtual 97, 3) := by decide +kernel
theorem dX4_trueCall_10 : decode cX4_trueCall 10 = .ok (.istore 4, 2) := by decide +kernel
theorem dX4_trueCall_12 : decode cX4_trueCall 12 = .ok (.iload 4, 2) := by decide +kernel
theorem dX4_trueCall_14 : decode cX4_trueCall 14 = .ok (.invokestatic 101, 3) := by decide +kernel
theorem dX4_trueCall_17 : decode cX4_trueCall 17 = .ok (.ifCond .eq 8, 3) := by decide +kernel
theorem dX4_trueCall_20 : decode cX4_trueCall 20 = .ok (.iload 4, 2) := by decide +kernel
theorem dX4_trueCall_22 : decode cX4_trueCall 22 = .ok (.goto 4, 3) := by decide +kernel
theorem dX4_trueCall_25 : decode cX4_trueCall 25 = .ok (.iload_n 3, 1) := by decide +kernel
theorem dX4_trueCall_26 : decode cX4_trueCall 26 = .ok (.ireturn, 1) := by decide +kernel
theorem dX4_fewestFrames_0 : decode cX4_fewestFrames 0 = .ok (.aload_n 2, 1) := by decide +kernel
theorem dX4_fewestFrames_1 : decode cX4_fewestFrames 1 = .ok (.getfield 105, 3) := by decide +kernel
theorem dX4_fewestFrames_4 : decode cX4_fewestFrames 4 = .ok (.bipush (-3), 2) := by decide +kernel
theorem dX4_fewestFrames_6 : decode cX4_fewestFrames 6 = .ok (.if_icmp .ne 13, 3) := by decide +kernel
theorem dX4_fewestFrames_9 : decode cX4_fewestFrames 9 = .ok (.aload_n 2, 1) := by decide +kernel
theorem dX4_fewestFrames_10 : decode cX4_fewestFrames 10 = .ok (.aload_n 0, 1) := by decide +kernel
theorem dX4_fewestFrames_11 : decode cX4_fewestFrames 11 = .ok (.aload_n 1, 1) := by decide +kernel
theorem dX4_fewestFrames_12 : decode cX4_fewestFrames 12 = .ok (.aload_n 2, 1) := by decide +kernel
theorem dX4_fewestFrames_13 : decode cX4_fewestFrames 13 = .ok (.invokevirtual 108, 3) := by decide +kernel
theorem dX4_fewestFrames_16 : decode cX4_fewestFrames 16 = .ok (.putfield 105, 3) := by decide +kernel
theorem dX4_fewestFrames_19 : decode cX4_fewestFrames 19 = .ok (.aload_n 2, 1) := by decide +kernel
theorem dX4_fewestFrames_20 : decode cX4_fewestFrames 20 = .ok (.getfield 105, 3) := by decide +kernel
theorem dX4_fewestFrames_23 : decode cX4_fewestFrames 23 = .ok (.ireturn, 1) := by decide +kernel
theorem dX4_searchFewest_0 : decode cX4_searchFewest 0 = .ok (.aload_n 2, 1) := by decide +kernel
theorem dX4_searchFewest_1 : decode cX4_searchFewest 1 = .ok (.invokevirtual 93, 3) := by decide +kernel
theorem dX4_searchFewest_4 : decode cX4_searchFewest 4 = .ok (.istore_n 3, 1) := by decide +kernel
theorem dX4_searchFewest_5 : decode cX4_searchFewest 5 = .ok (.aload_n 0, 1) := by decide +kernel
theorem dX4_searchFewest_6 : decode cX4_searchFewest 6 = .ok (.aload_n 1, 1) := by decide +kernel
theorem dX4_searchFewest_7 : decode cX4_searchFewest 7 = .ok (.aload_n 2, 1) := by decide +kernel
theorem dX4_searchFewest_8 : decode cX4_searchFewest 8 = .ok (.iload_n 3, 1) := by decide +kernel
theorem dX4_searchFewest_9 : decode cX4_searchFewest 9 = .ok (.invokevirtual 97, 3) := by decide +kernel
theorem dX4_searchFewest_12 : decode cX4_searchFewest 12 = .ok (.istore 4, 2) := by decide +kernel
theorem dX4_searchFewest_14 : decode cX4_searchFewest 14 = .ok (.iload 4, 2) := by decide +kernel
theorem dX4_searchFewest_16 : decode cX4_searchFewest 16 = .ok (.invokestatic 101, 3) := by decide +kernel
theorem dX4_searchFewest_19 : decode cX4_searchFewest 19 = .ok (.ifCond .ne 6, 3) := by decide +kernel
theorem dX4_searchFewest_22 : decode cX4_searchFewest 22 = .ok (.bipush (-2), 2) := by decide +kernel
theorem dX4_searchFewest_24 : decode cX4_searchFewest 24 = .ok (.ireturn, 1) := by decide +kernel
theorem dX4_searchFewest_25 : decode cX4_searchFewest 25 = .ok (.iconst 0, 1) := by decide +kernel
theorem dX4_searchFewest_26 : decode cX4_searchFewest 26 = .ok (.istore 5, 2) := by decide +kernel
theorem dX4_searchFewest_28 : decode cX4_searchFewest 28 = .ok (.iload 5, 2) := by decide +kernel
theorem dX4_searchFewest_30 : decode cX4_searchFewest 30 = .ok (.aload_n 2, 1) := by decide +kernel
theorem dX4_searchFewest_31 : decode cX4_searchFewest 31 = .ok (.getfield 30, 3) := by decide +kernel
theorem dX4_searchFewest_34 : decode cX4_searchFewest 34 = .ok (.if_icmp .ge 50, 3) := by decide +kernel
theorem dX4_searchFewest_37 : decode cX4_searchFewest 37 = .ok (.iconst 0, 1) := by decide +kernel
theorem dX4_searchFewest_38 : decode cX4_searchFewest 38 = .ok (.istore 6, 2) := by decide +kernel
theorem dX4_searchFewest_40 : decode cX4_searchFewest 40 = .ok (.iload 6, 2) := by decide +kernel
theorem dX4_searchFewest_42 : decode cX4_searchFewest 42 = .ok (.iload_n 3, 1) := by decide +kernel
theorem dX4_searchFewest_43 : decode cX4_searchFewest 43 = .ok (.if_icmp .gt 35, 3) := by decide +kernel
theorem dX4_searchFewest_46 : decode cX4_searchFewest 46 = .ok (.iload 6, 2) := by decide +kernel
theorem dX4_searchFewest_48 : decode cX4_searchFewest 48 = .ok (.invokestatic 112, 3) := by decide +kernel
theorem dX4_searchFewest_51 : decode cX4_searchFewest 51 = .ok (.iload 5, 2) := by decide +kernel
theorem dX4_searchFewest_53 : decode cX4_searchFewest 53 = .ok (.if_icmp .ne 19, 3) := by decide +kernel
theorem dX4_searchFewest_56 : decode cX4_searchFewest 56 = .ok (.aload_n 0, 1) := by decide +kernel
theorem dX4_searchFewest_57 : decode cX4_searchFewest 57 = .ok (.aload_n 1, 1) := by decide +kernel
theorem dX4_searchFewest_58 : decode cX4_searchFewest 58 = .ok (.aload_n 2, 1) := by decide +kernel
theorem dX4_searchFewest_59 : decode cX4_searchFewest 59 = .ok (.iload 6, 2) := by decide +kernel
theorem dX4_searchFewest_61 : decode cX4_searchFewest 61 = .ok (.invokevirtual 97, 3) := by decide +kernel
theorem dX4_searchFewest_64 : decode cX4_searchFewest 64 = .ok (.iload 4, 2) := by decide +kernel
theorem dX4_searchFewest_66 : decode cX4_searchFewest 66 = .ok (.if_icmp .ne 6, 3) := by decide +kernel
theorem dX4_searchFewest_69 : decode cX4_searchFewest 69 = .ok (.iload 6, 2) := by decide +kernel
theorem dX4_searchFewest_71 : decode cX4_searchFewest 71 = .ok (.ireturn, 1) := by decide +kernel
theorem dX4_searchFewest_72 : decode cX4_searchFewest 72 = .ok (.iinc 6 1, 3) := by decide +kernel
theorem dX4_searchFewest_75 : decode cX4_searchFewest 75 = .ok (.goto (-35), 3) := by decide +kernel
theorem dX4_searchFewest_78 : decode cX4_searchFewest 78 = .ok (.iinc 5 1, 3) := by decide +kernel
theorem dX4_searchFewest_81 : decode cX4_searchFewest 81 = .ok (.goto (-53), 3) := by decide +kernel
theorem dX4_searchFewest_84 : decode cX4_searchFewest 84 = .ok (.iload_n 3, 1) := by decide +kernel
theorem dX4_searchFewest_85 : decode cX4_searchFewest 85 = .ok (.ireturn, 1) := by decide +kernel
theorem dX4_keyFrames_0 : decode cX4_keyFrames 0 = .ok (.aload_n 2, 1) := by decide +kernel
theorem dX4_keyFrames_1 : decode cX4_keyFrames 1 = .ok (.invokevirtual 93, 3) := by decide +kernel
theorem dX4_keyFrames_4 : decode cX4_keyFrames 4 = .ok (.istore_n 3, 1) := by decide +kernel
theorem dX4_keyFrames_5 : decode cX4_keyFrames 5 = .ok (.aload_n 0, 1) := by decide +kernel
theorem dX4_keyFrames_6 : decode cX4_keyFrames 6 = .ok (.aload_n 1, 1) := by decide +kernel
theorem dX4_keyFrames_7 : decode cX4_keyFrames 7 = .ok (.aload_n 2, 1) := by decide +kernel
theorem dX4_keyFrames_8 : decode cX4_keyFrames 8 = .ok (.iload_n 3, 1) := by decide +kernel
theorem dX4_keyFrames_9 : decode cX4_keyFrames 9 = .ok (.invokevirtual 97, 3) := by decide +kernel
theorem dX4_keyFrames_12 : decode cX4_keyFrames 12 = .ok (.invokestatic 101, 3) := by decide +kernel
theorem dX4_keyFrames_15 : decode cX4_keyFrames 15 = .ok (.ifCond .ne 6, 3) := by decide +kernel
theorem dX4_keyFrames_18 : decode cX4_keyFrames 18 = .ok (.bipush (-2), 2) := by decide +kernel
theorem dX4_keyFrames_20 : decode cX4_keyFrames 20 = .ok (.ireturn, 1) := by decide +kernel
theorem dX4_keyFrames_21 : decode cX4_keyFrames 21 = .ok (.iconst 0, 1) := by decide +kernel
theorem dX4_keyFrames_22 : decode cX4_keyFrames 22 = .ok (.istore 4, 2) := by decide +kernel
theorem dX4_keyFrames_24 : decode cX4_keyFrames 24 = .ok (.iconst 0, 1) := by decide +kernel
theorem dX4_keyFrames_25 : decode cX4_keyFrames 25 = .ok (.istore 5, 2) := by decide +kernel
theorem dX4_keyFrames_27 : decode cX4_keyFrames 27 = .ok (.iload 5, 2) := by decide +kernel
theorem dX4_keyFrames_29 : decode cX4_keyFrames 29 = .ok (.aload_n 2, 1) := by decide +kernel
theorem dX4_keyFrames_30 : decode cX4_keyFrames 30 = .ok (.getfield 30, 3) := by decide +kernel
theorem dX4_keyFrames_33 : decode cX4_keyFrames 33 = .ok (.if_icmp .ge 36, 3) := by decide +kernel
theorem dX4_keyFrames_36 : decode cX4_keyFrames 36 = .ok (.aload_n 0, 1) := by decide +kernel
theorem dX4_keyFrames_37 : decode cX4_keyFrames 37 = .ok (.aload_n 1, 1) := by decide +kernel
theorem dX4_keyFrames_38 : decode cX4_keyFrames 38 = .ok (.aload_n 2, 1) := by decide +kernel
theorem dX4_keyFrames_39 : decode cX4_keyFrames 39 = .ok (.iload_n 3, 1) := by decide +kernel
theorem dX4_keyFrames_40 : decode cX4_keyFrames 40 = .ok (.iconst 1, 1) := by decide +kernel
theorem dX4_keyFrames_41 : decode cX4_keyFrames 41 = .ok (.iload 5, 2) := by decide +kernel
theorem dX4_keyFrames_43 : decode cX4_keyFrames 43 = .ok (.ishl, 1) := by decide +kernel
theorem dX4_keyFrames_44 : decode cX4_keyFrames 44 = .ok (.iconst (-1), 1) := by decide +kernel
theorem dX4_keyFrames_45 : decode cX4_keyFrames 45 = .ok (.ixor, 1) := by decide +kernel
theorem dX4_keyFrames_46 : decode cX4_keyFrames 46 = .ok (.iand, 1) := by decide +kernel
theorem dX4_keyFrames_47 : decode cX4_keyFrames 47 = .ok (.invokevirtual 97, 3) := by decide +kernel
theorem dX4_keyFrames_50 : decode cX4_keyFrames 50 = .ok (.iconst 2, 1) := by decide +kernel
theorem dX4_keyFrames_51 : decode cX4_keyFrames 51 = .ok (.if_icmp .ne 12, 3) := by decide +kernel
theorem dX4_keyFrames_54 : decode cX4_keyFrames 54 = .ok (.iload 4, 2) := by decide +kernel
theorem dX4_keyFrames_56 : decode cX4_keyFrames 56 = .ok (.iconst 1, 1) := by decide +kernel
theorem dX4_keyFrames_57 : decode cX4_keyFrames 57 = .ok (.iload 5, 2) := by decide +kernel
theorem dX4_keyFrames_59 : decode cX4_keyFrames 59 = .ok (.ishl, 1) := by decide +kernel
theorem dX4_keyFrames_60 : decode cX4_keyFrames 60 = .ok (.ior, 1) := by decide +kernel
theorem dX4_keyFrames_61 : decode cX4_keyFrames 61 = .ok (.istore 4, 2) := by decide +kernel
theorem dX4_keyFrames_63 : decode cX4_keyFrames 63 = .ok (.iinc 5 1, 3) := by decide +kernel
theorem dX4_keyFrames_66 : decode cX4_keyFrames 66 = .ok (.goto (-39), 3) := by decide +kernel
theorem dX4_keyFrames_69 : decode cX4_keyFrames 69 = .ok (.iload 4, 2) := by decide +kernel
theorem dX4_keyFrames_71 : decode cX4_keyFrames 71 = .ok (.ireturn, 1) := by decide +kernel
theorem dX4_fewestCameras_0 : decode cX4_fewestCameras 0 = .ok (.aload_n 0, 1) := by decide +kernel
theorem dX4_fewestCameras_1 : decode cX4_fewestCameras 1 = .ok (.aload_n 1, 1) := by decide +kernel
theorem dX4_fewestCameras_2 : decode cX4_fewestCameras 2 = .ok (.aload_n 2, 1) := by decide +kernel
theorem dX4_fewestCameras_3 : decode cX4_fewestCameras 3 = .ok (.aload_n 2, 1) := by decide +kernel
theorem dX4_fewestCameras_4 : decode cX4_fewestCameras 4 = .ok (.invokevirtual 93, 3) := by decide +kernel
theorem dX4_fewestCameras_7 : decode cX4_fewestCameras 7 = .ok (.invokevirtual 97, 3) := by decide +kernel
theorem dX4_fewestCameras_10 : decode cX4_fewestCameras 10 = .ok (.istore_n 3, 1) := by decide +kernel
theorem dX4_fewestCameras_11 : decode cX4_fewestCameras 11 = .ok (.iload_n 3, 1) := by decide +kernel
theorem dX4_fewestCameras_12 : decode cX4_fewestCameras 12 = .ok (.invokestatic 101, 3) := by decide +kernel
theorem dX4_fewestCameras_15 : decode cX4_fewestCameras 15 = .ok (.ifCond .ne 6, 3) := by decide +kernel
theorem dX4_fewestCameras_18 : decode cX4_fewestCameras 18 = .ok (.bipush (-2), 2) := by decide +kernel
theorem dX4_fewestCameras_20 : decode cX4_fewestCameras 20 = .ok (.ireturn, 1) := by decide +kernel
theorem dX4_fewestCameras_21 : decode cX4_fewestCameras 21 = .ok (.aload_n 1, 1) := by decide +kernel
theorem dX4_fewestCameras_22 : decode cX4_fewestCameras 22 = .ok (.invokevirtual 118, 3) := by decide +kernel
theorem dX4_fewestCameras_25 : decode cX4_fewestCameras 25 = .ok (.istore 4, 2) := by decide +kernel
theorem dX4_fewestCameras_27 : decode cX4_fewestCameras 27 = .ok (.iconst 0, 1) := by decide +kernel
theorem dX4_fewestCameras_28 : decode cX4_fewestCameras 28 = .ok (.istore 5, 2) := by decide +kernel
theorem dX4_fewestCameras_30 : decode cX4_fewestCameras 30 = .ok (.iload 5, 2) := by decide +kernel
theorem dX4_fewestCameras_32 : decode cX4_fewestCameras 32 = .ok (.aload_n 1, 1) := by decide +kernel
theorem dX4_fewestCameras_33 : decode cX4_fewestCameras 33 = .ok (.getfield 121, 3) := by decide +kernel
theorem dX4_fewestCameras_36 : decode cX4_fewestCameras 36 = .ok (.if_icmp .ge 54, 3) := by decide +kernel
theorem dX4_fewestCameras_39 : decode cX4_fewestCameras 39 = .ok (.iconst 0, 1) := by decide +kernel
theorem dX4_fewestCameras_40 : decode cX4_fewestCameras 40 = .ok (.istore 6, 2) := by decide +kernel
theorem dX4_fewestCameras_42 : decode cX4_fewestCameras 42 = .ok (.iload 6, 2) := by decide +kernel
theorem dX4_fewestCameras_44 : decode cX4_fewestCameras 44 = .ok (.iload 4, 2) := by decide +kernel
theorem dX4_fewestCameras_46 : decode cX4_fewestCameras 46 = .ok (.if_icmp .gt 38, 3) := by decide +kernel
theorem dX4_fewestCameras_49 : decode cX4_fewestCameras 49 = .ok (.iload 6, 2) := by decide +kernel
theorem dX4_fewestCameras_51 : decode cX4_fewestCameras 51 = .ok (.invokestatic 112, 3) := by decide +kernel
theorem dX4_fewestCameras_54 : decode cX4_fewestCameras 54 = .ok (.iload 5, 2) := by decide +kernel
theorem dX4_fewestCameras_56 : decode cX4_fewestCameras 56 = .ok (.if_icmp .ne 22, 3) := by decide +kernel
theorem dX4_fewestCameras_59 : decode cX4_fewestCameras 59 = .ok (.aload_n 0, 1) := by decide +kernel
theorem dX4_fewestCameras_60 : decode cX4_fewestCameras 60 = .ok (.aload_n 1, 1) := by decide +kernel
theorem dX4_fewestCameras_61 : decode cX4_fewestCameras 61 = .ok (.aload_n 2, 1) := by decide +kernel
theorem dX4_fewestCameras_62 : decode cX4_fewestCameras 62 = .ok (.aload_n 2, 1) := by decide +kernel
theorem dX4_fewestCameras_63 : decode cX4_fewestCameras 63 = .ok (.iload 6, 2) := by decide +kernel
theorem dX4_fewestCameras_65 : decode cX4_fewestCameras 65 = .ok (.invokevirtual 124, 3) := by decide +kernel
theorem dX4_fewestCameras_68 : decode cX4_fewestCameras 68 = .ok (.invokevirtual 97, 3) := by decide +kernel
theorem dX4_fewestCameras_71 : decode cX4_fewestCameras 71 = .ok (.iload_n 3, 1) := by decide +kernel
theorem dX4_fewestCameras_72 : decode cX4_fewestCameras 72 = .ok (.if_icmp .ne 6, 3) := by decide +kernel
theorem dX4_fewestCameras_75 : decode cX4_fewestCameras 75 = .ok (.iload 6, 2) := by decide +kernel
theorem dX4_fewestCameras_77 : decode cX4_fewestCameras 77 = .ok (.ireturn, 1) := by decide +kernel
theorem dX4_fewestCameras_78 : decode cX4_fewestCameras 78 = .ok (.iinc 6 1, 3) := by decide +kernel
theorem dX4_fewestCameras_81 : decode cX4_fewestCameras 81 = .ok (.goto (-39), 3) := by decide +kernel
theorem dX4_fewestCameras_84 : decode cX4_fewestCameras 84 = .ok (.iinc 5 1, 3) := by decide +kernel
theorem dX4_fewestCameras_87 : decode cX4_fewestCameras 87 = .ok (.goto (-57), 3) := by decide +kernel
theorem dX4_fewestCameras_90 : decode cX4_fewestCameras 90 = .ok (.iload 4, 2) := by decide +kernel
theorem dX4_fewestCameras_92 : decode cX4_fewestCameras 92 = .ok (.ireturn, 1) := by decide +kernel
theorem dX4_fewestLeftOut_0 : decode cX4_fewestLeftOut 0 = .ok (.aload_n 2, 1) := by decide +kernel
theorem dX4_fewestLeftOut_1 : decode cX4_fewestLeftOut 1 = .ok (.getfield 127, 3) := by decide +kernel
theorem dX4_fewestLeftOut_4 : decode cX4_fewestLeftOut 4 = .ok (.bipush (-3), 2) := by decide +kernel
theorem dX4_fewestLeftOut_6 : decode cX4_fewestLeftOut 6 = .ok (.if_icmp .ne 13, 3) := by decide +kernel
theorem dX4_fewestLeftOut_9 : decode cX4_fewestLeftOut 9 = .ok (.aload_n 2, 1) := by decide +kernel
theorem dX4_fewestLeftOut_10 : decode cX4_fewestLeftOut 10 = .ok (.aload_n 0, 1) := by decide +kernel
theorem dX4_fewestLeftOut_11 : decode cX4_fewestLeftOut 11 = .ok (.aload_n 1, 1) := by decide +kernel
theorem dX4_fewestLeftOut_12 : decode cX4_fewestLeftOut 12 = .ok (.aload_n 2, 1) := by decide +kernel
theorem dX4_fewestLeftOut_13 : decode cX4_fewestLeftOut 13 = .ok (.invokevirtual 130, 3) := by decide +kernel
theorem dX4_fewestLeftOut_16 : decode cX4_fewestLeftOut 16 = .ok (.putfield 127, 3) := by decide +kernel
theorem dX4_fewestLeftOut_19 : decode cX4_fewestLeftOut 19 = .ok (.aload_n 2, 1) := by decide +kernel
theorem dX4_fewestLeftOut_20 : decode cX4_fewestLeftOut 20 = .ok (.getfield 127, 3) := by decide +kernel
theorem dX4_fewestLeftOut_23 : decode cX4_fewestLeftOut 23 = .ok (.ireturn, 1) := by decide +kernel
theorem dX4_searchLeftOut_0 : decode cX4_searchLeftOut 0 = .ok (.aload_n 1, 1) := by decide +kernel
theorem dX4_searchLeftOut_1 : decode cX4_searchLeftOut 1 = .ok (.getfield 21, 3) := by decide +kernel
theorem dX4_searchLeftOut_4 : decode cX4_searchLeftOut 4 = .ok (.getfield 61, 3) := by decide +kernel
theorem dX4_searchLeftOut_7 : decode cX4_searchLeftOut 7 = .ok (.ifCond .eq 6, 3) := by decide +kernel
theorem dX4_searchLeftOut_10 : decode cX4_searchLeftOut 10 = .ok (.bipush (-2), 2) := by decide +kernel
theorem dX4_searchLeftOut_12 : decode cX4_searchLeftOut 12 = .ok (.ireturn, 1) := by decide +kernel
theorem dX4_searchLeftOut_13 : decode cX4_searchLeftOut 13 = .ok (.aload_n 2, 1) := by decide +kernel
theorem dX4_searchLeftOut_14 : decode cX4_searchLeftOut 14 = .ok (.invokevirtual 93, 3) := by decide +kernel
theorem dX4_searchLeftOut_17 : decode cX4_searchLeftOut 17 = .ok (.istore_n 3, 1) := by decide +kernel
theorem dX4_searchLeftOut_18 : decode cX4_searchLeftOut 18 = .ok (.iconst 0, 1) := by decide +kernel
theorem dX4_searchLeftOut_19 : decode cX4_searchLeftOut 19 = .ok (.istore 4, 2) := by decide +kernel
theorem dX4_searchLeftOut_21 : decode cX4_searchLeftOut 21 = .ok (.iload 4, 2) := by decide +kernel
theorem dX4_searchLeftOut_23 : decode cX4_searchLeftOut 23 = .ok (.aload_n 2, 1) := by decide +kernel
theorem dX4_searchLeftOut_24 : decode cX4_searchLeftOut 24 = .ok (.getfield 30, 3) := by decide +kernel
theorem dX4_searchLeftOut_27 : decode cX4_searchLeftOut 27 = .ok (.if_icmp .ge 55, 3) := by decide +kernel
theorem dX4_searchLeftOut_30 : decode cX4_searchLeftOut 30 = .ok (.iconst 0, 1) := by decide +kernel
theorem dX4_searchLeftOut_31 : decode cX4_searchLeftOut 31 = .ok (.istore 5, 2) := by decide +kernel
theorem dX4_searchLeftOut_33 : decode cX4_searchLeftOut 33 = .ok (.iload 5, 2) := by decide +kernel
theorem dX4_searchLeftOut_35 : decode cX4_searchLeftOut 35 = .ok (.iload_n 3, 1) := by decide +kernel
theorem dX4_searchLeftOut_36 : decode cX4_searchLeftOut 36 = .ok (.if_icmp .gt 40, 3) := by decide +kernel
theorem dX4_searchLeftOut_39 : decode cX4_searchLeftOut 39 = .ok (.iload 5, 2) := by decide +kernel
theorem dX4_searchLeftOut_41 : decode cX4_searchLeftOut 41 = .ok (.invokestatic 112, 3) := by decide +kernel
theorem dX4_searchLeftOut_44 : decode cX4_searchLeftOut 44 = .ok (.iload 4, 2) := by decide +kernel
theorem dX4_searchLeftOut_46 : decode cX4_searchLeftOut 46 = .ok (.if_icmp .ne 24, 3) := by decide +kernel
theorem dX4_searchLeftOut_49 : decode cX4_searchLeftOut 49 = .ok (.aload_n 0, 1) := by decide +kernel
theorem dX4_searchLeftOut_50 : decode cX4_searchLeftOut 50 = .ok (.aload_n 1, 1) := by decide +kernel
theorem dX4_searchLeftOut_51 : decode cX4_searchLeftOut 51 = .ok (.aload_n 2, 1) := by decide +kernel
theorem dX4_searchLeftOut_52 : decode cX4_searchLeftOut 52 = .ok (.iload_n 3, 1) := by decide +kernel
theorem dX4_searchLeftOut_53 : decode cX4_searchLeftOut 53 = .ok (.iload 5, 2) := by decide +kernel
theorem dX4_searchLeftOut_55 : decode cX4_searchLeftOut 55 = .ok (.iconst (-1), 1) := by decide +kernel
theorem dX4_searchLeftOut_56 : decode cX4_searchLeftOut 56 = .ok (.ixor, 1) := by decide +kernel
theorem dX4_searchLeftOut_57 : decode cX4_searchLeftOut 57 = .ok (.iand, 1) := by decide +kernel
theorem dX4_searchLeftOut_58 : decode cX4_searchLeftOut 58 = .ok (.invokevirtual 57, 3) := by decide +kernel
theorem dX4_searchLeftOut_61 : decode cX4_searchLeftOut 61 = .ok (.getfield 61, 3) := by decide +kernel
theorem dX4_searchLeftOut_64 : decode cX4_searchLeftOut 64 = .ok (.ifCond .ne 6, 3) := by decide +kernel
theorem dX4_searchLeftOut_67 : decode cX4_searchLeftOut 67 = .ok (.iload 5, 2) := by decide +kernel
theorem dX4_searchLeftOut_69 : decode cX4_searchLeftOut 69 = .ok (.ireturn, 1) := by decide +kernel
theorem dX4_searchLeftOut_70 : decode cX4_searchLeftOut 70 = .ok (.iinc 5 1, 3) := by decide +kernel
theorem dX4_searchLeftOut_73 : decode cX4_searchLeftOut 73 = .ok (.goto (-40), 3) := by decide +kernel
theorem dX4_searchLeftOut_76 : decode cX4_searchLeftOut 76 = .ok (.iinc 4 1, 3) := by decide +kernel
theorem dX4_searchLeftOut_79 : decode cX4_searchLeftOut 79 = .ok (.goto (-58), 3) := by decide +kernel
theorem dX4_searchLeftOut_82 : decode cX4_searchLeftOut 82 = .ok (.iload_n 3, 1) := by decide +kernel
theorem dX4_searchLeftOut_83 : decode cX4_searchLeftOut 83 = .ok (.ireturn, 1) := by decide +kernel
theorem dX5_init_0 : decode cX5_init 0 = .ok (.aload_n 0, 1) := by decide +kernel
theorem dX5_init_1 : decode cX5_init 1 = .ok (.invokespecial 3, 3) := by decide +kernel
theorem dX5_init_4 : decode cX5_init 4 = .ok (.aload_n 0, 1) := by decide +kernel
theorem dX5_init_5 : decode cX5_init 5 = .ok (.iconst 3, 1) := by decide +kernel
theorem dX5_init_6 : decode cX5_init 6 = .ok (.newarray .int, 2) := by decide +kernel
theorem dX5_init_8 : decode cX5_init 8 = .ok (.putfield 9, 3) := by decide +kernel
theorem dX5_init_11 : decode cX5_init 11 = .ok (.aload_n 0, 1) := by decide +kernel
theorem dX5_init_12 : decode cX5_init 12 = .ok (.iconst 3, 1) := by decide +kernel
theorem dX5_init_13 : decode cX5_init 13 = .ok (.newarray .int, 2) := by decide +kernel
theorem dX5_init_15 : decode cX5_init 15 = .ok (.putfield 15, 3) := by decide +kernel
theorem dX5_init_18 : decode cX5_init 18 = .ok (.return_, 1) := by decide +kernel
theorem dX6_init_0 : decode cX6_init 0 = .ok (.aload_n 0, 1) := by decide +kernel
theorem dX6_init_1 : decode cX6_init 1 = .ok (.invokespecial 3, 3) := by decide +kernel
theorem dX6_init_4 : decode cX6_init 4 = .ok (.aload_n 0, 1) := by decide +kernel
theorem dX6_init_5 : decode cX6_init 5 = .ok (.bipush 10, 2) := by decide +kernel
theorem dX6_init_7 : decode cX6_init 7 = .ok (.newarray .int, 2) := by decide +kernel
theorem dX6_init_9 : decode cX6_init 9 = .ok (.putfield 9, 3) := by decide +kernel
theorem dX6_init_12 : decode cX6_init 12 = .ok (.aload_n 0, 1) := by decide +kernel
theorem dX6_init_13 : decode cX6_init 13 = .ok (.bipush 10, 2) := by decide +kernel
theorem dX6_init_15 : decode cX6_init 15 = .ok (.newarray .int, 2) := by decide +kernel
theorem dX6_init_17 : decode cX6_init 17 = .ok (.putfield 15, 3) := by decide +kernel
theorem dX6_init_20 : decode cX6_init 20 = .ok (.aload_n 0, 1) := by decide +kernel
theorem dX6_init_21 : decode cX6_init 21 = .ok (.bipush 10, 2) := by decide +kernel
theorem dX6_init_23 : decode cX6_init 23 = .ok (.newarray .int, 2) := by decide +kernel
theorem dX6_init_25 : decode cX6_init 25 = .ok (.putfield 18, 3) := by decide +kernel
theorem dX6_init_28 : decode cX6_init 28 = .ok (.aload_n 0, 1) := by decide +kernel
theorem dX6_init_29 : decode cX6_init 29 = .ok (.bipush 10, 2) := by decide +kernel
theorem dX6_init_31 : decode cX6_init 31 = .ok (.newarray .int, 2) := by decide +kernel
theorem dX6_init_33 : decode cX6_init 33 = .ok (.putfield 21, 3) := by decide +kernel
theorem dX6_init_36 : decode cX6_init 36 = .ok (.return_, 1) := by decide +kernel
theorem dX6_clear_0 : decode cX6_clear 0 = .ok (.aload_n 0, 1) := by decide +kernel
theorem dX6_clear_1 : decode cX6_clear 1 = .ok (.iconst 0, 1) := by decide +kernel
theorem dX6_clear_2 : decode cX6_clear 2 = .ok (.putfield 24, 3) := by decide +kernel
theorem dX6_clear_5 : decode cX6_clear 5 = .ok (.aload_n 0, 1) := by decide +kernel
theorem dX6_clear_6 : decode cX6_clear 6 = .ok (.bipush (-3), 2) := by decide +kernel
theorem dX6_clear_8 : decode cX6_clear 8 = .ok (.putfield 28, 3) := by decide +kernel
theorem dX6_clear_11 : decode cX6_clear 11 = .ok (.aload_n 0, 1) := by decide +kernel
theorem dX6_clear_12 : decode cX6_clear 12 = .ok (.bipush (-3), 2) := by decide +kernel
theorem dX6_clear_14 : decode cX6_clear 14 = .ok (.putfield 31, 3) := by decide +kernel
theorem dX6_clear_17 : decode cX6_clear 17 = .ok (.return_, 1) := by decide +kernel
theorem dX6_allFrames_0 : decode cX6_allFrames 0 = .ok (.iconst 1, 1) := by decide +kernel
theorem dX6_allFrames_1 : decode cX6_allFrames 1 = .ok (.aload_n 0, 1) := by decide +kernel
theorem dX6_allFrames_2 : decode cX6_allFrames 2 = .ok (.getfield 24, 3) := by decide +kernel
theorem dX6_allFrames_5 : decode cX6_allFrames 5 = .ok (.ishl, 1) := by decide +kernel
theorem dX6_allFrames_6 : decode cX6_allFrames 6 = .ok (.iconst 1, 1) := by decide +kernel
theorem dX6_allFrames_7 : decode cX6_allFrames 7 = .ok (.isub, 1) := by decide +kernel
theorem dX6_allFrames_8 : decode cX6_allFrames 8 = .ok (.ireturn, 1) := by decide +kernel
theorem dX6_framesOf_0 : decode cX6_framesOf 0 = .ok (.iconst 0, 1) := by decide +kernel
theorem dX6_framesOf_1 : decode cX6_framesOf 1 = .ok (.istore_n 2, 1) := by decide +kernel
theorem dX6_framesOf_2 : decode cX6_framesOf 2 = .ok (.iconst 0, 1) := by decide +kernel
theorem dX6_framesOf_3 : decode cX6_framesOf 3 = .ok (.istore_n 3, 1) := by decide +kernel
theorem dX6_framesOf_4 : decode cX6_framesOf 4 = .ok (.iload_n 3, 1) := by decide +kernel
theorem dX6_framesOf_5 : decode cX6_framesOf 5 = .ok (.aload_n 0, 1) := by decide +kernel
theorem dX6_framesOf_6 : decode cX6_framesOf 6 = .ok (.getfield 24, 3) := by decide +kernel
theorem dX6_framesOf_9 : decode cX6_framesOf 9 = .ok (.if_icmp .ge 28, 3) := by decide +kernel
theorem dX6_framesOf_12 : decode cX6_framesOf 12 = .ok (.iload_n 1, 1) := by decide +kernel
theorem dX6_framesOf_13 : decode cX6_framesOf 13 = .ok (.aload_n 0, 1) := by decide +kernel
theorem dX6_framesOf_14 : decode cX6_framesOf 14 = .ok (.getfield 9, 3) := by decide +kernel
theorem dX6_framesOf_17 : decode cX6_framesOf 17 = .ok (.iload_n 3, 1) := by decide +kernel
theorem dX6_framesOf_18 : decode cX6_framesOf 18 = .ok (.iaload, 1) := by decide +kernel
theorem dX6_framesOf_19 : decode cX6_framesOf 19 = .ok (.ishr, 1) := by decide +kernel
theorem dX6_framesOf_20 : decode cX6_framesOf 20 = .ok (.iconst 1, 1) := by decide +kernel
theorem dX6_framesOf_21 : decode cX6_framesOf 21 = .ok (.iand, 1) := by decide +kernel
theorem dX6_framesOf_22 : decode cX6_framesOf 22 = .ok (.ifCond .eq 9, 3) := by decide +kernel
theorem dX6_framesOf_25 : decode cX6_framesOf 25 = .ok (.iload_n 2, 1) := by decide +kernel
theorem dX6_framesOf_26 : decode cX6_framesOf 26 = .ok (.iconst 1, 1) := by decide +kernel
theorem dX6_framesOf_27 : decode cX6_framesOf 27 = .ok (.iload_n 3, 1) := by decide +kernel
theorem dX6_framesOf_28 : decode cX6_framesOf 28 = .ok (.ishl, 1) := by decide +kernel
theorem dX6_framesOf_29 : decode cX6_framesOf 29 = .ok (.ior, 1) := by decide +kernel
theorem dX6_framesOf_30 : decode cX6_framesOf 30 = .ok (.istore_n 2, 1) := by decide +kernel
theorem dX6_framesOf_31 : decode cX6_framesOf 31 = .ok (.iinc 3 1, 3) := by decide +kernel
theorem dX6_framesOf_34 : decode cX6_framesOf 34 = .ok (.goto (-30), 3) := by decide +kernel
theorem dX6_framesOf_37 : decode cX6_framesOf 37 = .ok (.iload_n 2, 1) := by decide +kernel
theorem dX6_framesOf_38 : decode cX6_framesOf 38 = .ok (.ireturn, 1) := by decide +kernel
theorem dX7_init_0 : decode cX7_init 0 = .ok (.aload_n 0, 1) := by decide +kernel
theorem dX7_init_1 : decode cX7_init 1 = .ok (.invokespecial 3, 3) := by decide +kernel
theorem dX7_init_4 : decode cX7_init 4 = .ok (.aload_n 0, 1) := by decide +kernel
theorem dX7_init_5 : decode cX7_init 5 = .ok (.getstatic 9, 3) := by decide +kernel
theorem dX7_init_8 : decode cX7_init 8 = .ok (.putfield 15, 3) := by decide +kernel
theorem dX7_init_11 : decode cX7_init 11 = .ok (.aload_n 0, 1) := by decide +kernel
theorem dX7_init_12 : decode cX7_init 12 = .ok (.bipush 25, 2) := by decide +kernel
theorem dX7_init_14 : decode cX7_init 14 = .ok (.newarray .int, 2) := by decide +kernel
theorem dX7_init_16 : decode cX7_init 16 = .ok (.putfield 20, 3) := by decide +kernel
theorem dX7_init_19 : decode cX7_init 19 = .ok (.aload_n 0, 1) := by decide +kernel
theorem dX7_init_20 : decode cX7_init 20 = .ok (.bipush 25, 2) := by decide +kernel
theorem dX7_init_22 : decode cX7_init 22 = .ok (.anewarray 10, 3) := by decide +kernel
theorem dX7_init_25 : decode cX7_init 25 = .ok (.putfield 24, 3) := by decide +kernel
theorem dX7_init_28 : decode cX7_init 28 = .ok (.aload_n 0, 1) := by decide +kernel
theorem dX7_init_29 : decode cX7_init 29 = .ok (.bipush 25, 2) := by decide +kernel
theorem dX7_init_31 : decode cX7_init 31 = .ok (.newarray .int, 2) := by decide +kernel
theorem dX7_init_33 : decode cX7_init 33 = .ok (.putfield 28, 3) := by decide +kernel
theorem dX7_init_36 : decode cX7_init 36 = .ok (.aload_n 0, 1) := by decide +kernel
theorem dX7_init_37 : decode cX7_init 37 = .ok (.aload_n 1, 1) := by decide +kernel
theorem dX7_init_38 : decode cX7_init 38 = .ok (.putfield 31, 3) := by decide +kernel
theorem dX7_init_41 : decode cX7_init 41 = .ok (.aload_n 0, 1) := by decide +kernel
theorem dX7_init_42 : decode cX7_init 42 = .ok (.aload_n 2, 1) := by decide +kernel
theorem dX7_init_43 : decode cX7_init 43 = .ok (.putfield 35, 3) := by decide +kernel
theorem dX7_init_46 : decode cX7_init 46 = .ok (.return_, 1) := by decide +kernel
theorem dX7_begin_0 : decode cX7_begin 0 = .ok (.aload_n 1, 1) := by decide +kernel
theorem dX7_begin_1 : decode cX7_begin 1 = .ok (.invokevirtual 39, 3) := by decide +kernel
theorem dX7_begin_4 : decode cX7_begin 4 = .ok (.aload_n 0, 1) := by decide +kernel
theorem dX7_begin_5 : decode cX7_begin 5 = .ok (.aload_n 1, 1) := by decide +kernel
theorem dX7_begin_6 : decode cX7_begin 6 = .ok (.putfield 35, 3) := by decide +kernel
theorem dX7_begin_9 : decode cX7_begin 9 = .ok (.aload_n 0, 1) := by decide +kernel
theorem dX7_begin_10 : decode cX7_begin 10 = .ok (.iload_n 2, 1) := by decide +kernel
theorem dX7_begin_11 : decode cX7_begin 11 = .ok (.aload_n 0, 1) := by decide +kernel
theorem dX7_begin_12 : decode cX7_begin 12 = .ok (.getfield 31, 3) := by decide +kernel
theorem dX7_begin_15 : decode cX7_begin 15 = .ok (.arraylength, 1) := by decide +kernel
theorem dX7_begin_16 : decode cX7_begin 16 = .ok (.invokestatic 44, 3) := by decide +kernel
theorem dX7_begin_19 : decode cX7_begin 19 = .ok (.putfield 50, 3) := by decide +kernel
theorem dX7_begin_22 : decode cX7_begin 22 = .ok (.aload_n 0, 1) := by decide +kernel
theorem dX7_begin_23 : decode cX7_begin 23 = .ok (.iconst 0, 1) := by decide +kernel
theorem dX7_begin_24 : decode cX7_begin 24 = .ok (.putfield 54, 3) := by decide +kernel
theorem dX7_begin_27 : decode cX7_begin 27 = .ok (.aload_n 0, 1) := by decide +kernel
theorem dX7_begin_28 : decode cX7_begin 28 = .ok (.iconst 0, 1) := by decide +kernel
theorem dX7_begin_29 : decode cX7_begin 29 = .ok (.putfield 57, 3) := by decide +kernel
theorem dX7_begin_32 : decode cX7_begin 32 = .ok (.aload_n 0, 1) := by decide +kernel
theorem dX7_begin_33 : decode cX7_begin 33 = .ok (.iconst 0, 1) := by decide +kernel
theorem dX7_begin_34 : decode cX7_begin 34 = .ok (.putfield 60, 3) := by decide +kernel
theorem dX7_begin_37 : decode cX7_begin 37 = .ok (.aload_n 0, 1) := by decide +kernel
theorem dX7_begin_38 : decode cX7_begin 38 = .ok (.invokevirtual 63, 3) := by decide +kernel
theorem dX7_begin_41 : decode cX7_begin 41 = .ok (.return_, 1) := by decide +kernel
theorem dX7_advance_0 : decode cX7_advance 0 = .ok (.aload_n 0, 1) := by decide +kernel
theorem dX7_advance_1 : decode cX7_advance 1 = .ok (.getfield 54, 3) := by decide +kernel
theorem dX7_advance_4 : decode cX7_advance 4 = .ok (.aload_n 0, 1) := by decide +kernel
theorem dX7_advance_5 : decode cX7_advance 5 = .ok (.getfield 50, 3) := by decide +kernel
theorem dX7_advance_8 : decode cX7_advance 8 = .ok (.if_icmp .ge 44, 3) := by decide +kernel
theorem dX7_advance_11 : decode cX7_advance 11 = .ok (.aload_n 0, 1) := by decide +kernel
theorem dX7_advance_12 : decode cX7_advance 12 = .ok (.getfield 31, 3) := by decide +kernel
theorem dX7_advance_15 : decode cX7_advance 15 = .ok (.aload_n 0, 1) := by decide +kernel
theorem dX7_advance_16 : decode cX7_advance 16 = .ok (.getfield 54, 3) := by decide +kernel
theorem dX7_advance_19 : decode cX7_advance 19 = .ok (.baload, 1) := by decide +kernel
theorem dX7_advance_20 : decode cX7_advance 20 = .ok (.bipush 32, 2) := by decide +kernel
theorem dX7_advance_22 : decode cX7_advance 22 = .ok (.if_icmp .eq 17, 3) := by decide +kernel
theorem dX7_advance_25 : decode cX7_advance 25 = .ok (.aload_n 0, 1) := by decide +kernel
theorem dX7_advance_26 : decode cX7_advance 26 = .ok (.getfield 31, 3) := by decide +kernel
theorem dX7_advance_29 : decode cX7_advance 29 = .ok (.aload_n 0, 1) := by decide +kernel
theorem dX7_advance_30 : decode cX7_advance 30 = .ok (.getfield 54, 3) := by decide +kernel
theorem dX7_advance_33 : decode cX7_advance 33 = .ok (.baload, 1) := by decide +kernel
theorem dX7_advance_34 : decode cX7_advance 34 = .ok (.bipush 10, 2) := by decide +kernel
theorem dX7_advance_36 : decode cX7_advance 36 = .ok (.if_icmp .ne 16, 3) := by decide +kernel
theorem dX7_advance_39 : decode cX7_advance 39 = .ok (.aload_n 0, 1) := by decide +kernel
theorem dX7_advance_40 : decode cX7_advance 40 = .ok (.dup, 1) := by decide +kernel
theorem dX7_advance_41 : decode cX7_advance 41 = .ok (.getfield 54, 3) := by decide +kernel
theorem dX7_advance_44 : decode cX7_advance 44 = .ok (.iconst 1, 1) := by decide +kernel
theorem dX7_advance_45 : decode cX7_advance 45 = .ok (.iadd, 1) := by decide +kernel
theorem dX7_advance_46 : decode cX7_advance 46 = .ok (.putfield 54, 3) := by decide +kernel
theorem dX7_advance_49 : decode cX7_advance 49 = .ok (.goto (-49), 3) := by decide +kernel
theorem dX7_advance_52 : decode cX7_advance 52 = .ok (.aload_n 0, 1) := by decide +kernel
theorem dX7_advance_53 : decode cX7_advance 53 = .ok (.aload_n 0, 1) := by decide +kernel
theorem dX7_advance_54 : decode cX7_advance 54 = .ok (.getfield 54, 3) := by decide +kernel
theorem dX7_advance_57 : decode cX7_advance 57 = .ok (.putfield 66, 3) := by decide +kernel
theorem dX7_advance_60 : decode cX7_advance 60 = .ok (.aload_n 0, 1) := by decide +kernel
theorem dX7_advance_61 : decode cX7_advance 61 = .ok (.iconst 0, 1) := by decide +kernel
theorem dX7_advance_62 : decode cX7_advance 62 = .ok (.putfield 69, 3) := by decide +kernel
theorem dX7_advance_65 : decode cX7_advance 65 = .ok (.aload_n 0, 1) := by decide +kernel
theorem dX7_advance_66 : decode cX7_advance 66 = .ok (.getfield 54, 3) := by decide +kernel
theorem dX7_advance_69 : decode cX7_advance 69 = .ok (.aload_n 0, 1) := by decide +kernel
theorem dX7_advance_70 : decode cX7_advance 70 = .ok (.getfield 50, 3) := by decide +kernel
theorem dX7_advance_73 : decode cX7_advance 73 = .ok (.if_icmp .lt 13, 3) := by decide +kernel
theorem dX7_advance_76 : decode cX7_advance 76 = .ok (.aload_n 0, 1) := by decide +kernel
theorem dX7_advance_77 : decode cX7_advance 77 = .ok (.getstatic 9, 3) := by decide +kernel
theorem dX7_advance_80 : decode cX7_advance 80 = .ok (.putfield 15, 3) := by decide +kernel
theorem dX7_advance_83 : decode cX7_advance 83 = .ok (.goto 73, 3) := by decide +kernel
theorem dX7_advance_86 : decode cX7_advance 86 = .ok (.aload_n 0, 1) := by decide +kernel
theorem dX7_advance_87 : decode cX7_advance 87 = .ok (.getfield 31, 3) := by decide +kernel
theorem dX7_advance_90 : decode cX7_advance 90 = .ok (.aload_n 0, 1) := by decide +kernel
theorem dX7_advance_91 : decode cX7_advance 91 = .ok (.getfield 54, 3) := by decide +kernel
theorem dX7_advance_94 : decode cX7_advance 94 = .ok (.baload, 1) := by decide +kernel
theorem dX7_advance_95 : decode cX7_advance 95 = .ok (.invokestatic 72, 3) := by decide +kernel
theorem dX7_advance_98 : decode cX7_advance 98 = .ok (.ifCond .eq 10, 3) := by decide +kernel
theorem dX7_advance_101 : decode cX7_advance 101 = .ok (.aload_n 0, 1) := by decide +kernel
theorem dX7_advance_102 : decode cX7_advance 102 = .ok (.invokevirtual 76, 3) := by decide +kernel
theorem dX7_advance_105 : decode cX7_advance 105 = .ok (.goto 51, 3) := by decide +kernel
theorem dX7_advance_108 : decode cX7_advance 108 = .ok (.aload_n 0, 1) := by decide +kernel
theorem dX7_advance_109 : decode cX7_advance 109 = .ok (.getfield 31, 3) := by decide +kernel
theorem dX7_advance_112 : decode cX7_advance 112 = .ok (.aload_n 0, 1) := by decide +kernel
theorem dX7_advance_113 : decode cX7_advance 113 = .ok (.getfield 54, 3) := by decide +kernel
theorem dX7_advance_116 : decode cX7_advance 116 = .ok (.baload, 1) := by decide +kernel
theorem dX7_advance_117 : decode cX7_advance 117 = .ok (.invokestatic 79, 3) := by decide +kernel
theorem dX7_advance_120 : decode cX7_advance 120 = .ok (.ifCond .eq 10, 3) := by decide +kernel
theorem dX7_advance_123 : decode cX7_advance 123 = .ok (.aload_n 0, 1) := by decide +kernel
theorem dX7_advance_124 : decode cX7_advance 124 = .ok (.invokevirtual 82, 3) := by decide +kernel
theorem dX7_advance_127 : decode cX7_advance 127 = .ok (.goto 29, 3) := by decide +kernel
theorem dX7_advance_130 : decode cX7_advance 130 = .ok (.aload_n 0, 1) := by decide +kernel
theorem dX7_advance_131 : decode cX7_advance 131 = .ok (.aload_n 0, 1) := by decide +kernel
theorem dX7_advance_132 : decode cX7_advance 132 = .ok (.getfield 31, 3) := by decide +kernel
theorem dX7_advance_135 : decode cX7_advance 135 = .ok (.aload_n 0, 1) := by decide +kernel
theorem dX7_advance_136 : decode cX7_advance 136 = .ok (.getfield 54, 3) := by decide +kernel
theorem dX7_advance_139 : decode cX7_advance 139 = .ok (.baload, 1) := by decide +kernel
theorem dX7_advance_140 : decode cX7_advance 140 = .ok (.invokestatic 85, 3) := by decide +kernel
theorem dX7_advance_143 : decode cX7_advance 143 = .ok (.putfield 15, 3) := by decide +kernel
theorem dX7_advance_146 : decode cX7_advance 146 = .ok (.aload_n 0, 1) := by decide +kernel
theorem dX7_advance_147 : decode cX7_advance 147 = .ok (.dup, 1) := by decide +kernel
theorem dX7_advance_148 : decode cX7_advance 148 = .ok (.getfield 54, 3) := by decide +kernel
theorem dX7_advance_151 : decode cX7_advance 151 = .ok (.iconst 1, 1) := by decide +kernel
theorem dX7_advance_152 : decode cX7_advance 152 = .ok (.iadd, 1) := by decide +kernel
theorem dX7_advance_153 : decode cX7_advance 153 = .ok (.putfield 54, 3) := by decide +kernel
theorem dX7_advance_156 : decode cX7_advance 156 = .ok (.return_, 1) := by decide +kernel
theorem dX7_isLetter_0 : decode cX7_isLetter 0 = .ok (.iload_n 0, 1) := by decide +kernel
theorem dX7_isLetter_1 : decode cX7_isLetter 1 = .ok (.bipush 97, 2) := by decide +kernel
theorem dX7_isLetter_3 : decode cX7_isLetter 3 = .ok (.if_icmp .lt 13, 3) := by decide +kernel
theorem dX7_isLetter_6 : decode cX7_isLetter 6 = .ok (.iload_n 0, 1) := by decide +kernel
theorem dX7_isLetter_7 : decode cX7_isLetter 7 = .ok (.bipush 122, 2) := by decide +kernel
theorem dX7_isLetter_9 : decode cX7_isLetter 9 = .ok (.if_icmp .gt 7, 3) := by decide +kernel
theorem dX7_isLetter_12 : decode cX7_isLetter 12 = .ok (.iconst 1, 1) := by decide +kernel
theorem dX7_isLetter_13 : decode cX7_isLetter 13 = .ok (.goto 4, 3) := by decide +kernel
theorem dX7_isLetter_16 : decode cX7_isLetter 16 = .ok (.iconst 0, 1) := by decide +kernel
theorem dX7_isLetter_17 : decode cX7_isLetter 17 = .ok (.ireturn, 1) := by decide +kernel
theorem dX7_isDigit_0 : decode cX7_isDigit 0 = .ok (.iload_n 0, 1) := by decide +kernel
theorem dX7_isDigit_1 : decode cX7_isDigit 1 = .ok (.bipush 48, 2) := by decide +kernel
theorem dX7_isDigit_3 : decode cX7_isDigit 3 = .ok (.if_icmp .lt 13, 3) := by decide +kernel
theorem dX7_isDigit_6 : decode cX7_isDigit 6 = .ok (.iload_n 0, 1) := by decide +kernel
theorem dX7_isDigit_7 : decode cX7_isDigit 7 = .ok (.bipush 57, 2) := by decide +kernel
theorem dX7_isDigit_9 : decode cX7_isDigit 9 = .ok (.if_icmp .gt 7, 3) := by decide +kernel
theorem dX7_isDigit_12 : decode cX7_isDigit 12 = .ok (.iconst 1, 1) := by decide +kernel
theorem dX7_isDigit_13 : decode cX7_isDigit 13 = .ok (.goto 4, 3) := by decide +kernel
theorem dX7_isDigit_16 : decode cX7_isDigit 16 = .ok (.iconst 0, 1) := by decide +kernel
theorem dX7_isDigit_17 : decode cX7_isDigit 17 = .ok (.ireturn, 1) := by decide +kernel
theorem dX7_scanNumber_0 : decode cX7_scanNumber 0 = .ok (.aload_n 0, 1) := by decide +kernel
theorem dX7_scanNumber_1 : decode cX7_scanNumber 1 = .ok (.getfield 54, 3) := by decide +kernel
theorem dX7_scanNumber_4 : decode cX7_scanNumber 4 = .ok (.aload_n 0, 1) := by decide +kernel
theorem dX7_scanNumber_5 : decode cX7_scanNumber 5 = .ok (.getfield 50, 3) := by decide +kernel
theorem dX7_scanNumber_8 : decode cX7_scanNumber 8 = .ok (.if_icmp .ge 75, 3) := by decide +kernel
theorem dX7_scanNumber_11 : decode cX7_scanNumber 11 = .ok (.aload_n 0, 1) := by decide +kernel
theorem dX7_scanNumber_12 : decode cX7_scanNumber 12 = .ok (.getfield 31, 3) := by decide +kernel
theorem dX7_scanNumber_15 : decode cX7_scanNumber 15 = .ok (.aload_n 0, 1) := by decide +kernel
theorem dX7_scanNumber_16 : decode cX7_scanNumber 16 = .ok (.getfield 54, 3) := by decide +kernel
theorem dX7_scanNumber_19 : decode cX7_scanNumber 19 = .ok (.baload, 1) := by decide +kernel
theorem dX7_scanNumber_20 : decode cX7_scanNumber 20 = .ok (.invokestatic 72, 3) := by decide +kernel
theorem dX7_scanNumber_23 : decode cX7_scanNumber 23 = .ok (.ifCond .eq 60, 3) := by decide +kernel
theorem dX7_scanNumber_26 : decode cX7_scanNumber 26 = .ok (.aload_n 0, 1) := by decide +kernel
theorem dX7_scanNumber_27 : decode cX7_scanNumber 27 = .ok (.aload_n 0, 1) := by decide +kernel
theorem dX7_scanNumber_28 : decode cX7_scanNumber 28 = .ok (.getfield 54, 3) := by decide +kernel
theorem dX7_scanNumber_31 : decode cX7_scanNumber 31 = .ok (.aload_n 0, 1) := by decide +kernel
theorem dX7_scanNumber_32 : decode cX7_scanNumber 32 = .ok (.getfield 66, 3) := by decide +kernel
theorem dX7_scanNumber_35 : decode cX7_scanNumber 35 = .ok (.isub, 1) := by decide +kernel
theorem dX7_scanNumber_36 : decode cX7_scanNumber 36 = .ok (.iconst 4, 1) := by decide +kernel
theorem dX7_scanNumber_37 : decode cX7_scanNumber 37 = .ok (.if_icmp .ge 26, 3) := by decide +kernel
theorem dX7_scanNumber_40 : decode cX7_scanNumber 40 = .ok (.aload_n 0, 1) := by decide +kernel
theorem dX7_scanNumber_41 : decode cX7_scanNumber 41 = .ok (.getfield 69, 3) := by decide +kernel
theorem dX7_scanNumber_44 : decode cX7_scanNumber 44 = .ok (.bipush 10, 2) := by decide +kernel
theorem dX7_scanNumber_46 : decode cX7_scanNumber 46 = .ok (.imul, 1) := by decide +kernel
theorem dX7_scanNumber_47 : decode cX7_scanNumber 47 = .ok (.aload_n 0, 1) := by decide +kernel
theorem dX7_scanNumber_48 : decode cX7_scanNumber 48 = .ok (.getfield 31, 3) := by decide +kernel
theorem dX7_scanNumber_51 : decode cX7_scanNumber 51 = .ok (.aload_n 0, 1) := by decide +kernel
theorem dX7_scanNumber_52 : decode cX7_scanNumber 52 = .ok (.getfield 54, 3) := by decide +kernel
theorem dX7_scanNumber_55 : decode cX7_scanNumber 55 = .ok (.baload, 1) := by decide +kernel
theorem dX7_scanNumber_56 : decode cX7_scanNumber 56 = .ok (.iadd, 1) := by decide +kernel
theorem dX7_scanNumber_57 : decode cX7_scanNumber 57 = .ok (.bipush 48, 2) := by decide +kernel
theorem dX7_scanNumber_59 : decode cX7_scanNumber 59 = .ok (.isub, 1) := by decide +kernel
theorem dX7_scanNumber_60 : decode cX7_scanNumber 60 = .ok (.goto 7, 3) := by decide +kernel
theorem dX7_scanNumber_63 : decode cX7_scanNumber 63 = .ok (.aload_n 0, 1) := by decide +kernel
theorem dX7_scanNumber_64 : decode cX7_scanNumber 64 = .ok (.getfield 69, 3) := by decide +kernel
theorem dX7_scanNumber_67 : decode cX7_scanNumber 67 = .ok (.putfield 69, 3) := by decide +kernel
theorem dX7_scanNumber_70 : decode cX7_scanNumber 70 = .ok (.aload_n 0, 1) := by decide +kernel
theorem dX7_scanNumber_71 : decode cX7_scanNumber 71 = .ok (.dup, 1) := by decide +kernel
theorem dX7_scanNumber_72 : decode cX7_scanNumber 72 = .ok (.getfield 54, 3) := by decide +kernel
theorem dX7_scanNumber_75 : decode cX7_scanNumber 75 = .ok (.iconst 1, 1) := by decide +kernel
theorem dX7_scanNumber_76 : decode cX7_scanNumber 76 = .ok (.iadd, 1) := by decide +kernel
theorem dX7_scanNumber_77 : decode cX7_scanNumber 77 = .ok (.putfield 54, 3) := by decide +kernel
theorem dX7_scanNumber_80 : decode cX7_scanNumber 80 = .ok (.goto (-80), 3) := by decide +kernel
theorem dX7_scanNumber_83 : decode cX7_scanNumber 83 = .ok (.aload_n 0, 1) := by decide +kernel
theorem dX7_scanNumber_84 : decode cX7_scanNumber 84 = .ok (.aload_n 0, 1) := by decide +kernel
theorem dX7_scanNumber_85 : decode cX7_scanNumber 85 = .ok (.getfield 54, 3) := by decide +kernel
theorem dX7_scanNumber_88 : decode cX7_scanNumber 88 = .ok (.aload_n 0, 1) := by decide +kernel
theorem dX7_scanNumber_89 : decode cX7_scanNumber 89 = .ok (.getfield 66, 3) := by decide +kernel
theorem dX7_scanNumber_92 : decode cX7_scanNumber 92 = .ok (.isub, 1) := by decide +kernel
theorem dX7_scanNumber_93 : decode cX7_scanNumber 93 = .ok (.iconst 4, 1) := by decide +kernel
theorem dX7_scanNumber_94 : decode cX7_scanNumber 94 = .ok (.if_icmp .gt 9, 3) := by decide +kernel
theorem dX7_scanNumber_97 : decode cX7_scanNumber 97 = .ok (.getstatic 89, 3) := by decide +kernel
theorem dX7_scanNumber_100 : decode cX7_scanNumber 100 = .ok (.goto 6, 3) := by decide +kernel
theorem dX7_scanNumber_103 : decode cX7_scanNumber 103 = .ok (.getstatic 92, 3) := by decide +kernel
theorem dX7_scanNumber_106 : decode cX7_scanNumber 106 = .ok (.putfield 15, 3) := by decide +kernel
theorem dX7_scanNumber_109 : decode cX7_scanNumber 109 = .ok (.return_, 1) := by decide +kernel
theorem dX7_scanWord_0 : decode cX7_scanWord 0 = .ok (.aload_n 0, 1) := by decide +kernel
theorem dX7_scanWord_1 : decode cX7_scanWord 1 = .ok (.getfield 54, 3) := by decide +kernel
theorem dX7_scanWord_4 : decode cX7_scanWord 4 = .ok (.aload_n 0, 1) := by decide +kernel
theorem dX7_scanWord_5 : decode cX7_scanWord 5 = .ok (.getfield 50, 3) := by decide +kernel
theorem dX7_scanWord_8 : decode cX7_scanWord 8 = .ok (.if_icmp .ge 72, 3) := by decide +kernel
theorem dX7_scanWord_11 : decode cX7_scanWord 11 = .ok (.aload_n 0, 1) := by decide +kernel
theorem dX7_scanWord_12 : decode cX7_scanWord 12 = .ok (.getfield 31, 3) := by decide +kernel
theorem dX7_scanWord_15 : decode cX7_scanWord 15 = .ok (.aload_n 0, 1) := by decide +kernel
theorem dX7_scanWord_16 : decode cX7_scanWord 16 = .ok (.getfield 54, 3) := by decide +kernel
theorem dX7_scanWord_19 : decode cX7_scanWord 19 = .ok (.baload, 1) := by decide +kernel
theorem dX7_scanWord_20 : decode cX7_scanWord 20 = .ok (.invokestatic 79, 3) := by decide +kernel
theorem dX7_scanWord_23 : decode cX7_scanWord 23 = .ok (.ifCond .eq 57, 3) := by decide +kernel
theorem dX7_scanWord_26 : decode cX7_scanWord 26 = .ok (.aload_n 0, 1) := by decide +kernel
theorem dX7_scanWord_27 : decode cX7_scanWord 27 = .ok (.aload_n 0, 1) := by decide +kernel
theorem dX7_scanWord_28 : decode cX7_scanWord 28 = .ok (.getfield 54, 3) := by decide +kernel
theorem dX7_scanWord_31 : decode cX7_scanWord 31 = .ok (.aload_n 0, 1) := by decide +kernel
theorem dX7_scanWord_32 : decode cX7_scanWord 32 = .ok (.getfield 66, 3) := by decide +kernel
theorem dX7_scanWord_35 : decode cX7_scanWord 35 = .ok (.isub, 1) := by decide +kernel
theorem dX7_scanWord_36 : decode cX7_scanWord 36 = .ok (.bipush 6, 2) := by decide +kernel
theorem dX7_scanWord_38 : decode cX7_scanWord 38 = .ok (.if_icmp .ge 22, 3) := by decide +kernel
theorem dX7_scanWord_41 : decode cX7_scanWord 41 = .ok (.aload_n 0, 1) := by decide +kernel
theorem dX7_scanWord_42 : decode cX7_scanWord 42 = .ok (.getfield 69, 3) := by decide +kernel
theorem dX7_scanWord_45 : decode cX7_scanWord 45 = .ok (.aload_n 0, 1) := by decide +kernel
theorem dX7_scanWord_46 : decode cX7_scanWord 46 = .ok (.getfield 31, 3) := by decide +kernel
theorem dX7_scanWord_49 : decode cX7_scanWord 49 = .ok (.aload_n 0, 1) := by decide +kernel
theorem dX7_scanWord_50 : decode cX7_scanWord 50 = .ok (.getfield 54, 3) := by decide +kernel
theorem dX7_scanWord_53 : decode cX7_scanWord 53 = .ok (.baload, 1) := by decide +kernel
theorem dX7_scanWord_54 : decode cX7_scanWord 54 = .ok (.invokestatic 95, 3) := by decide +kernel
theorem dX7_scanWord_57 : decode cX7_scanWord 57 = .ok (.goto 7, 3) := by decide +kernel
theorem dX7_scanWord_60 : decode cX7_scanWord 60 = .ok (.aload_n 0, 1) := by decide +kernel
theorem dX7_scanWord_61 : decode cX7_scanWord 61 = .ok (.getfield 69, 3) := by decide +kernel
theorem dX7_scanWord_64 : decode cX7_scanWord 64 = .ok (.putfield 69, 3) := by decide +kernel
theorem dX7_scanWord_67 : decode cX7_scanWord 67 = .ok (.aload_n 0, 1) := by decide +kernel
theorem dX7_scanWord_68 : decode cX7_scanWord 68 = .ok (.dup, 1) := by decide +kernel
theorem dX7_scanWord_69 : decode cX7_scanWord 69 = .ok (.getfield 54, 3) := by decide +kernel
theorem dX7_scanWord_72 : decode cX7_scanWord 72 = .ok (.iconst 1, 1) := by decide +kernel
theorem dX7_scanWord_73 : decode cX7_scanWord 73 = .ok (.iadd, 1) := by decide +kernel
theorem dX7_scanWord_74 : decode cX7_scanWord 74 = .ok (.putfield 54, 3) := by decide +kernel
theorem dX7_scanWord_77 : decode cX7_scanWord 77 = .ok (.goto (-77), 3) := by decide +kernel
theorem dX7_scanWord_80 : decode cX7_scanWord 80 = .ok (.aload_n 0, 1) := by decide +kernel
theorem dX7_scanWord_81 : decode cX7_scanWord 81 = .ok (.aload_n 0, 1) := by decide +kernel
theorem dX7_scanWord_82 : decode cX7_scanWord 82 = .ok (.getfield 54, 3) := by decide +kernel
theorem dX7_scanWord_85 : decode cX7_scanWord 85 = .ok (.aload_n 0, 1) := by decide +kernel
theorem dX7_scanWord_86 : decode cX7_scanWord 86 = .ok (.getfield 66, 3) := by decide +kernel
theorem dX7_scanWord_89 : decode cX7_scanWord 89 = .ok (.isub, 1) := by decide +kernel
theorem dX7_scanWord_90 : decode cX7_scanWord 90 = .ok (.bipush 6, 2) := by decide +kernel
theorem dX7_scanWord_92 : decode cX7_scanWord 92 = .ok (.if_icmp .gt 13, 3) := by decide +kernel
theorem dX7_scanWord_95 : decode cX7_scanWord 95 = .ok (.aload_n 0, 1) := by decide +kernel
theorem dX7_scanWord_96 : decode cX7_scanWord 96 = .ok (.getfield 69, 3) := by decide +kernel
theorem dX7_scanWord_99 : decode cX7_scanWord 99 = .ok (.invokestatic 98, 3) := by decide +kernel
theorem dX7_scanWord_102 : decode cX7_scanWord 102 = .ok (.goto 6, 3) := by decide +kernel
theorem dX7_scanWord_105 : decode cX7_scanWord 105 = .ok (.getstatic 92, 3) := by decide +kernel
theorem dX7_scanWord_108 : decode cX7_scanWord 108 = .ok (.putfield 15, 3) := by decide +kernel
theorem dX7_scanWord_111 : decode cX7_scanWord 111 = .ok (.return_, 1) := by decide +kernel
theorem dX7_fail_0 : decode cX7_fail 0 = .ok (.aload_n 0, 1) := by decide +kernel
theorem dX7_fail_1 : decode cX7_fail 1 = .ok (.bipush 8, 2) := by decide +kernel
theorem dX7_fail_3 : decode cX7_fail 3 = .ok (.aload_n 0, 1) := by decide +kernel
theorem dX7_fail_4 : decode cX7_fail 4 = .ok (.getfield 66, 3) := by decide +kernel
theorem dX7_fail_7 : decode cX7_fail 7 = .ok (.imul, 1) := by decide +kernel
theorem dX7_fail_8 : decode cX7_fail 8 = .ok (.iload_n 1, 1) := by decide +kernel
theorem dX7_fail_9 : decode cX7_fail 9 = .ok (.iadd, 1) := by decide +kernel
theorem dX7_fail_10 : decode cX7_fail 10 = .ok (.putfield 101, 3) := by decide +kernel
theorem dX7_fail_13 : decode cX7_fail 13 = .ok (.iconst 0, 1) := by decide +kernel
theorem dX7_fail_14 : decode cX7_fail 14 = .ok (.ireturn, 1) := by decide +kernel
theorem dX7_take_0 : decode cX7_take 0 = .ok (.aload_n 0, 1) := by decide +kernel
theorem dX7_take_1 : decode cX7_take 1 = .ok (.getfield 15, 3) := by decide +kernel
theorem dX7_take_4 : decode cX7_take 4 = .ok (.aload_n 1, 1) := by decide +kernel
theorem dX7_take_5 : decode cX7_take 5 = .ok (.if_acmp .eq 9, 3) := by decide +kernel
theorem dX7_take_8 : decode cX7_take 8 = .ok (.aload_n 0, 1) := by decide +kernel
theorem dX7_take_9 : decode cX7_take 9 = .ok (.iconst 1, 1) := by decide +kernel
theorem dX7_take_10 : decode cX7_take 10 = .ok (.invokevirtual 104, 3) := by decide +kernel
theorem dX7_take_13 : decode cX7_take 13 = .ok (.ireturn, 1) := by decide +kernel
theorem dX7_take_14 : decode cX7_take 14 = .ok (.aload_n 0, 1) := by decide +kernel
theorem dX7_take_15 : decode cX7_take 15 = .ok (.invokevirtual 63, 3) := by decide +kernel
theorem dX7_take_18 : decode cX7_take 18 = .ok (.iconst 1, 1) := by decide +kernel
theorem dX7_take_19 : decode cX7_take 19 = .ok (.ireturn, 1) := by decide +kernel
theorem dX7_skip_0 : decode cX7_skip 0 = .ok (.aload_n 0, 1) := by decide +kernel
theorem dX7_skip_1 : decode cX7_skip 1 = .ok (.getfield 15, 3) := by decide +kernel
theorem dX7_skip_4 : decode cX7_skip 4 = .ok (.aload_n 1, 1) := by decide +kernel
theorem dX7_skip_5 : decode cX7_skip 5 = .ok (.if_acmp .ne 7, 3) := by decide +kernel
theorem dX7_skip_8 : decode cX7_skip 8 = .ok (.iconst 1, 1) := by decide +kernel
theorem dX7_skip_9 : decode cX7_skip 9 = .ok (.goto 4, 3) := by decide +kernel
theorem dX7_skip_12 : decode cX7_skip 12 = .ok (.iconst 0, 1) := by decide +kernel
theorem dX7_skip_13 : decode cX7_skip 13 = .ok (.istore_n 2, 1) := by decide +kernel
theorem dX7_skip_14 : decode cX7_skip 14 = .ok (.iload_n 2, 1) := by decide +kernel
theorem dX7_skip_15 : decode cX7_skip 15 = .ok (.ifCond .eq 7, 3) := by decide +kernel
theorem dX7_skip_18 : decode cX7_skip 18 = .ok (.aload_n 0, 1) := by decide +kernel
theorem dX7_skip_19 : decode cX7_skip 19 = .ok (.invokevirtual 63, 3) := by decide +kernel
theorem dX7_skip_22 : decode cX7_skip 22 = .ok (.iload_n 2, 1) := by decide +kernel
theorem dX7_skip_23 : decode cX7_skip 23 = .ok (.ireturn, 1) := by decide +kernel
theorem dX7_takeNumber_0 : decode cX7_takeNumber 0 = .ok (.aload_n 0, 1) := by decide +kernel
theorem dX7_takeNumber_1 : decode cX7_takeNumber 1 = .ok (.getfield 15, 3) := by decide +kernel
theorem dX7_takeNumber_4 : decode cX7_takeNumber 4 = .ok (.getstatic 89, 3) := by decide +kernel
theorem dX7_takeNumber_7 : decode cX7_takeNumber 7 = .ok (.if_acmp .eq 9, 3) := by decide +kernel
theorem dX7_takeNumber_10 : decode cX7_takeNumber 10 = .ok (.aload_n 0, 1) := by decide +kernel
theorem dX7_takeNumber_11 : decode cX7_takeNumber 11 = .ok (.iconst 1, 1) := by decide +kernel
theorem dX7_takeNumber_12 : decode cX7_takeNumber 12 = .ok (.invokevirtual 104, 3) := by decide +kernel
theorem dX7_takeNumber_15 : decode cX7_takeNumber 15 = .ok (.ireturn, 1) := by decide +kernel
theorem dX7_takeNumber_16 : decode cX7_takeNumber 16 = .ok (.aload_n 0, 1) := by decide +kernel
theorem dX7_takeNumber_17 : decode cX7_takeNumber 17 = .ok (.getfield 69, 3) := by decide +kernel
theorem dX7_takeNumber_20 : decode cX7_takeNumber 20 = .ok (.iload_n 1, 1) := by decide +kernel
theorem dX7_takeNumber_21 : decode cX7_takeNumber 21 = .ok (.if_icmp .lt 11, 3) := by decide +kernel
theorem dX7_takeNumber_24 : decode cX7_takeNumber 24 = .ok (.aload_n 0, 1) := by decide +kernel
theorem dX7_takeNumber_25 : decode cX7_takeNumber 25 = .ok (.getfield 69, 3) := by decide +kernel
theorem dX7_takeNumber_28 : decode cX7_takeNumber 28 = .ok (.iload_n 2, 1) := by decide +kernel
theorem dX7_takeNumber_29 : decode cX7_takeNumber 29 = .ok (.if_icmp .le 9, 3) := by decide +kernel
theorem dX7_takeNumber_32 : decode cX7_takeNumber 32 = .ok (.aload_n 0, 1) := by decide +kernel
theorem dX7_takeNumber_33 : decode cX7_takeNumber 33 = .ok (.iconst 3, 1) := by decide +kernel
theorem dX7_takeNumber_34 : decode cX7_takeNumber 34 = .ok (.invokevirtual 104, 3) := by decide +kernel
theorem dX7_takeNumber_37 : decode cX7_takeNumber 37 = .ok (.ireturn, 1) := by decide +kernel
theorem dX7_takeNumber_38 : decode cX7_takeNumber 38 = .ok (.aload_n 0, 1) := by decide +kernel
theorem dX7_takeNumber_39 : decode cX7_takeNumber 39 = .ok (.aload_n 0, 1) := by decide +kernel
theorem dX7_takeNumber_40 : decode cX7_takeNumber 40 = .ok (.getfield 69, 3) := by decide +kernel
theorem dX7_takeNumber_43 : decode cX7_takeNumber 43 = .ok (.putfield 107, 3) := by decide +kernel
theorem dX7_takeNumber_46 : decode cX7_takeNumber 46 = .ok (.aload_n 0, 1) := by decide +kernel
theorem dX7_takeNumber_47 : decode cX7_takeNumber 47 = .ok (.invokevirtual 63, 3) := by decide +kernel
theorem dX7_takeNumber_50 : decode cX7_takeNumber 50 = .ok (.iconst 1, 1) := by decide +kernel
theorem dX7_takeNumber_51 : decode cX7_takeNumber 51 = .ok (.ireturn, 1) := by decide +kernel
theorem dX7_takeMark_0 : decode cX7_takeMark 0 = .ok (.aload_n 0, 1) := by decide +kernel
theorem dX7_takeMark_1 : decode cX7_takeMark 1 = .ok (.getfield 15, 3) := by decide +kernel
theorem dX7_takeMark_4 : decode cX7_takeMark 4 = .ok (.getstatic 89, 3) := by decide +kernel
theorem dX7_takeMark_7 : decode cX7_takeMark 7 = .ok (.if_acmp .eq 9, 3) := by decide +kernel
theorem dX7_takeMark_10 : decode cX7_takeMark 10 = .ok (.aload_n 0, 1) := by decide +kernel
theorem dX7_takeMark_11 : decode cX7_takeMark 11 = .ok (.iconst 1, 1) := by decide +kernel
theorem dX7_takeMark_12 : decode cX7_takeMark 12 = .ok (.invokevirtual 104, 3) := by decide +kernel
theorem dX7_takeMark_15 : decode cX7_takeMark 15 = .ok (.ireturn, 1) := by decide +kernel
theorem dX7_takeMark_16 : decode cX7_takeMark 16 = .ok (.aload_n 0, 1) := by decide +kernel
theorem dX7_takeMark_17 : decode cX7_takeMark 17 = .ok (.getfield 69, 3) := by decide +kernel
theorem dX7_takeMark_20 : decode cX7_takeMark 20 = .ok (.iconst 4, 1) := by decide +kernel
theorem dX7_takeMark_21 : decode cX7_takeMark 21 = .ok (.if_icmp .ge 14, 3) := by decide +kernel
theorem dX7_takeMark_24 : decode cX7_takeMark 24 = .ok (.iload_n 1, 1) := by decide +kernel
theorem dX7_takeMark_25 : decode cX7_takeMark 25 = .ok (.aload_n 0, 1) := by decide +kernel
theorem dX7_takeMark_26 : decode cX7_takeMark 26 = .ok (.getfield 69, 3) := by decide +kernel
theorem dX7_takeMark_29 : decode cX7_takeMark 29 = .ok (.ishr, 1) := by decide +kernel
theorem dX7_takeMark_30 : decode cX7_takeMark 30 = .ok (.iconst 1, 1) := by decide +kernel
theorem dX7_takeMark_31 : decode cX7_takeMark 31 = .ok (.iand, 1) := by decide +kernel
theorem dX7_takeMark_32 : decode cX7_takeMark 32 = .ok (.ifCond .eq 9, 3) := by decide +kernel
theorem dX7_takeMark_35 : decode cX7_takeMark 35 = .ok (.aload_n 0, 1) := by decide +kernel
theorem dX7_takeMark_36 : decode cX7_takeMark 36 = .ok (.iconst 3, 1) := by decide +kernel
theorem dX7_takeMark_37 : decode cX7_takeMark 37 = .ok (.invokevirtual 104, 3) := by decide +kernel
theorem dX7_takeMark_40 : decode cX7_takeMark 40 = .ok (.ireturn, 1) := by decide +kernel
theorem dX7_takeMark_41 : decode cX7_takeMark 41 = .ok (.aload_n 0, 1) := by decide +kernel
theorem dX7_takeMark_42 : decode cX7_takeMark 42 = .ok (.aload_n 0, 1) := by decide +kernel
theorem dX7_takeMark_43 : decode cX7_takeMark 43 = .ok (.getfield 69, 3) := by decide +kernel
theorem dX7_takeMark_46 : decode cX7_takeMark 46 = .ok (.putfield 107, 3) := by decide +kernel
theorem dX7_takeMark_49 : decode cX7_takeMark 49 = .ok (.aload_n 0, 1) := by decide +kernel
theorem dX7_takeMark_50 : decode cX7_takeMark 50 = .ok (.invokevirtual 63, 3) := by decide +kernel
theorem dX7_takeMark_53 : decode cX7_takeMark 53 = .ok (.iconst 1, 1) := by decide +kernel
theorem dX7_takeMark_54 : decode cX7_takeMark 54 = .ok (.ireturn, 1) := by decide +kernel
theorem dX7_giveName_0 : decode cX7_giveName 0 = .ok (.aload_n 0, 1) := by decide +kernel
theorem dX7_giveName_1 : decode cX7_giveName 1 = .ok (.getfield 15, 3) := by decide +kernel
theorem dX7_giveName_4 : decode cX7_giveName 4 = .ok (.getstatic 110, 3) := by decide +kernel
theorem dX7_giveName_7 : decode cX7_giveName 7 = .ok (.if_acmp .eq 9, 3) := by decide +kernel
theorem dX7_giveName_10 : decode cX7_giveName 10 = .ok (.aload_n 0, 1) := by decide +kernel
theorem dX7_giveName_11 : decode cX7_giveName 11 = .ok (.iconst 1, 1) := by decide +kernel
theorem dX7_giveName_12 : decode cX7_giveName 12 = .ok (.invokevirtual 104, 3) := by decide +kernel
theorem dX7_giveName_15 : decode cX7_giveName 15 = .ok (.ireturn, 1) := by decide +kernel
theorem dX7_giveName_16 : decode cX7_giveName 16 = .ok (.iconst 0, 1) := by decide +kernel
theorem dX7_giveName_17 : decode cX7_giveName 17 = .ok (.istore_n 3, 1) := by decide +kernel
theorem dX7_giveName_18 : decode cX7_giveName 18 = .ok (.iload_n 3, 1) := by decide +kernel
theorem dX7_giveName_19 : decode cX7_giveName 19 = .ok (.aload_n 0, 1) := by decide +kernel
theorem dX7_giveName_20 : decode cX7_giveName 20 = .ok (.getfield 57, 3) := by decide +kernel
theorem dX7_giveName_23 : decode cX7_giveName 23 = .ok (.if_icmp .ge 28, 3) := by decide +kernel
theorem dX7_giveName_26 : decode cX7_giveName 26 = .ok (.aload_n 0, 1) := by decide +kernel
theorem dX7_giveName_27 : decode cX7_giveName 27 = .ok (.getfield 20, 3) := by decide +kernel
theorem dX7_giveName_30 : decode cX7_giveName 30 = .ok (.iload_n 3, 1) := by decide +kernel
theorem dX7_giveName_31 : decode cX7_giveName 31 = .ok (.iaload, 1) := by decide +kernel
theorem dX7_giveName_32 : decode cX7_giveName 32 = .ok (.aload_n 0, 1) := by decide +kernel
theorem dX7_giveName_33 : decode cX7_giveName 33 = .ok (.getfield 69, 3) := by decide +kernel
theorem dX7_giveName_36 : decode cX7_giveName 36 = .ok (.if_icmp .ne 9, 3) := by decide +kernel
theorem dX7_giveName_39 : decode cX7_giveName 39 = .ok (.aload_n 0, 1) := by decide +kernel
theorem dX7_giveName_40 : decode cX7_giveName 40 = .ok (.iconst 2, 1) := by decide +kernel
theorem dX7_giveName_41 : decode cX7_giveName 41 = .ok (.invokevirtual 104, 3) := by decide +kernel
theorem dX7_giveName_44 : decode cX7_giveName 44 = .ok (.ireturn, 1) := by decide +kernel
theorem dX7_giveName_45 : decode cX7_giveName 45 = .ok (.iinc 3 1, 3) := by decide +kernel
theorem dX7_giveName_48 : decode cX7_giveName 48 = .ok (.goto (-30), 3) := by decide +kernel
theorem dX7_giveName_51 : decode cX7_giveName 51 = .ok (.aload_n 0, 1) := by decide +kernel
theorem dX7_giveName_52 : decode cX7_giveName 52 = .ok (.getfield 57, 3) := by decide +kernel
theorem dX7_giveName_55 : decode cX7_giveName 55 = .ok (.bipush 25, 2) := by decide +kernel
theorem dX7_giveName_57 : decode cX7_giveName 57 = .ok (.if_icmp .ge 46, 3) := by decide +kernel
theorem dX7_giveName_60 : decode cX7_giveName 60 = .ok (.aload_n 0, 1) := by decide +kernel
theorem dX7_giveName_61 : decode cX7_giveName 61 = .ok (.getfield 20, 3) := by decide +kernel
theorem dX7_giveName_64 : decode cX7_giveName 64 = .ok (.aload_n 0, 1) := by decide +kernel
theorem dX7_giveName_65 : decode cX7_giveName 65 = .ok (.getfield 57, 3) := by decide +kernel
theorem dX7_giveName_68 : decode cX7_giveName 68 = .ok (.aload_n 0, 1) := by decide +kernel
theorem dX7_giveName_69 : decode cX7_giveName 69 = .ok (.getfield 69, 3) := by decide +kernel
theorem dX7_giveName_72 : decode cX7_giveName 72 = .ok (.iastore, 1) := by decide +kernel
theorem dX7_giveName_73 : decode cX7_giveName 73 = .ok (.aload_n 0, 1) := by decide +kernel
theorem dX7_giveName_74 : decode cX7_giveName 74 = .ok (.getfield 24, 3) := by decide +kernel
theorem dX7_giveName_77 : decode cX7_giveName 77 = .ok (.aload_n 0, 1) := by decide +kernel
theorem dX7_giveName_78 : decode cX7_giveName 78 = .ok (.getfield 57, 3) := by decide +kernel
theorem dX7_giveName_81 : decode cX7_giveName 81 = .ok (.aload_n 1, 1) := by decide +kernel
theorem dX7_giveName_82 : decode cX7_giveName 82 = .ok (.aastore, 1) := by decide +kernel
theorem dX7_giveName_83 : decode cX7_giveName 83 = .ok (.aload_n 0, 1) := by decide +kernel
theorem dX7_giveName_84 : decode cX7_giveName 84 = .ok (.getfield 28, 3) := by decide +kernel
theorem dX7_giveName_87 : decode cX7_giveName 87 = .ok (.aload_n 0, 1) := by decide +kernel
theorem dX7_giveName_88 : decode cX7_giveName 88 = .ok (.getfield 57, 3) := by decide +kernel
theorem dX7_giveName_91 : decode cX7_giveName 91 = .ok (.iload_n 2, 1) := by decide +kernel
theorem dX7_giveName_92 : decode cX7_giveName 92 = .ok (.iastore, 1) := by decide +kernel
theorem dX7_giveName_93 : decode cX7_giveName 93 = .ok (.aload_n 0, 1) := by decide +kernel
theorem dX7_giveName_94 : decode cX7_giveName 94 = .ok (.dup, 1) := by decide +kernel
theorem dX7_giveName_95 : decode cX7_giveName 95 = .ok (.getfield 57, 3) := by decide +kernel
theorem dX7_giveName_98 : decode cX7_giveName 98 = .ok (.iconst 1, 1) := by decide +kernel
theorem dX7_giveName_99 : decode cX7_giveName 99 = .ok (.iadd, 1) := by decide +kernel
theorem dX7_giveName_100 : decode cX7_giveName 100 = .ok (.putfield 57, 3) := by decide +kernel
theorem dX7_giveName_103 : decode cX7_giveName 103 = .ok (.aload_n 0, 1) := by decide +kernel
theorem dX7_giveName_104 : decode cX7_giveName 104 = .ok (.invokevirtual 63, 3) := by decide +kernel
theorem dX7_giveName_107 : decode cX7_giveName 107 = .ok (.iconst 1, 1) := by decide +kernel
theorem dX7_giveName_108 : decode cX7_giveName 108 = .ok (.ireturn, 1) := by decide +kernel
theorem dX7_findName_0 : decode cX7_findName 0 = .ok (.aload_n 0, 1) := by decide +kernel
theorem dX7_findName_1 : decode cX7_findName 1 = .ok (.getfield 15, 3) := by decide +kernel
theorem dX7_findName_4 : decode cX7_findName 4 = .ok (.getstatic 110, 3) := by decide +kernel
theorem dX7_findName_7 : decode cX7_findName 7 = .ok (.if_acmp .eq 11, 3) := by decide +kernel
theorem dX7_findName_10 : decode cX7_findName 10 = .ok (.aload_n 0, 1) := by decide +kernel
theorem dX7_findName_11 : decode cX7_findName 11 = .ok (.iconst 1, 1) := by decide +kernel
theorem dX7_findName_12 : decode cX7_findName 12 = .ok (.invokevirtual 104, 3) := by decide +kernel
theorem dX7_findName_15 : decode cX7_findName 15 = .ok (.pop, 1) := by decide +kernel
theorem dX7_findName_16 : decode cX7_findName 16 = .ok (.iconst (-1), 1) := by decide +kernel
theorem dX7_findName_17 : decode cX7_findName 17 = .ok (.ireturn, 1) := by decide +kernel
theorem dX7_findName_18 : decode cX7_findName 18 = .ok (.iconst 0, 1) := by decide +kernel
theorem dX7_findName_19 : decode cX7_findName 19 = .ok (.istore_n 3, 1) := by decide +kernel
theorem dX7_findName_20 : decode cX7_findName 20 = .ok (.iload_n 3, 1) := by decide +kernel
theorem dX7_findName_21 : decode cX7_findName 21 = .ok (.aload_n 0, 1) := by decide +kernel
theorem dX7_findName_22 : decode cX7_findName 22 = .ok (.getfield 57, 3) := by decide +kernel
theorem dX7_findName_25 : decode cX7_findName 25 = .ok (.if_icmp .ge 49, 3) := by decide +kernel
theorem dX7_findName_28 : decode cX7_findName 28 = .ok (.aload_n 0, 1) := by decide +kernel
theorem dX7_findName_29 : decode cX7_findName 29 = .ok (.getfield 20, 3) := by decide +kernel
theorem dX7_findName_32 : decode cX7_findName 32 = .ok (.iload_n 3, 1) := by decide +kernel
theorem dX7_findName_33 : decode cX7_findName 33 = .ok (.iaload, 1) := by decide +kernel
theorem dX7_findName_34 : decode cX7_findName 34 = .ok (.aload_n 0, 1) := by decide +kernel
theorem dX7_findName_35 : decode cX7_findName 35 = .ok (.getfield 69, 3) := by decide +kernel
theorem dX7_findName_38 : decode cX7_findName 38 = .ok (.if_icmp .ne 30, 3) := by decide +kernel
theorem dX7_findName_41 : decode cX7_findName 41 = .ok (.aload_n 0, 1) := by decide +kernel
theorem dX7_findName_42 : decode cX7_findName 42 = .ok (.getfield 24, 3) := by decide +kernel
theorem dX7_findName_45 : decode cX7_findName 45 = .ok (.iload_n 3, 1) := by decide +kernel
theorem dX7_findName_46 : decode cX7_findName 46 = .ok (.aaload, 1) := by decide +kernel
theorem dX7_findName_47 : decode cX7_findName 47 = .ok (.aload_n 1, 1) := by decide +kernel
theorem dX7_findName_48 : decode cX7_findName 48 = .ok (.if_acmp .ne 20, 3) := by decide +kernel
theorem dX7_findName_51 : decode cX7_findName 51 = .ok (.aload_n 0, 1) := by decide +kernel
theorem dX7_findName_52 : decode cX7_findName 52 = .ok (.getfield 28, 3) := by decide +kernel
theorem dX7_findName_55 : decode cX7_findName 55 = .ok (.iload_n 3, 1) := by decide +kernel
theorem dX7_findName_56 : decode cX7_findName 56 = .ok (.iaload, 1) := by decide +kernel
theorem dX7_findName_57 : decode cX7_findName 57 = .ok (.iload_n 2, 1) := by decide +kernel
theorem dX7_findName_58 : decode cX7_findName 58 = .ok (.if_icmp .eq 10, 3) := by decide +kernel
theorem dX7_findName_61 : decode cX7_findName 61 = .ok (.aload_n 0, 1) := by decide +kernel
theorem dX7_findName_62 : decode cX7_findName 62 = .ok (.getfield 28, 3) := by decide +kernel
theorem dX7_findName_65 : decode cX7_findName 65 = .ok (.iload_n 3, 1) := by decide +kernel
theorem dX7_findName_66 : decode cX7_findName 66 = .ok (.iaload, 1) := by decide +kernel
theorem dX7_findName_67 : decode cX7_findName 67 = .ok (.ireturn, 1) := by decide +kernel
theorem dX7_findName_68 : decode cX7_findName 68 = .ok (.iinc 3 1, 3) := by decide +kernel
theorem dX7_findName_71 : decode cX7_findName 71 = .ok (.goto (-51), 3) := by decide +kernel
theorem dX7_findName_74 : decode cX7_findName 74 = .ok (.aload_n 0, 1) := by decide +kernel
theorem dX7_findName_75 : decode cX7_findName 75 = .ok (.iconst 4, 1) := by decide +kernel
theorem dX7_findName_76 : decode cX7_findName 76 = .ok (.invokevirtual 104, 3) := by decide +kernel
theorem dX7_findName_79 : decode cX7_findName 79 = .ok (.pop, 1) := by decide +kernel
theorem dX7_findName_80 : decode cX7_findName 80 = .ok (.iconst (-1), 1) := by decide +kernel
theorem dX7_findName_81 : decode cX7_findName 81 = .ok (.ireturn, 1) := by decide +kernel
theorem dX7_takeName_0 : decode cX7_takeName 0 = .ok (.aload_n 0, 1) := by decide +kernel
theorem dX7_takeName_1 : decode cX7_takeName 1 = .ok (.aload_n 1, 1) := by decide +kernel
theorem dX7_takeName_2 : decode cX7_takeName 2 = .ok (.iload_n 2, 1) := by decide +kernel
theorem dX7_takeName_3 : decode cX7_takeName 3 = .ok (.invokevirtual 113, 3) := by decide +kernel
theorem dX7_takeName_6 : decode cX7_takeName 6 = .ok (.istore_n 3, 1) := by decide +kernel
theorem dX7_takeName_7 : decode cX7_takeName 7 = .ok (.iload_n 3, 1) := by decide +kernel
theorem dX7_takeName_8 : decode cX7_takeName 8 = .ok (.iconst (-1), 1) := by decide +kernel
theorem dX7_takeName_9 : decode cX7_takeName 9 = .ok (.if_icmp .eq 7, 3) := by decide +kernel
theorem dX7_takeName_12 : decode cX7_takeName 12 = .ok (.aload_n 0, 1) := by decide +kernel
theorem dX7_takeName_13 : decode cX7_takeName 13 = .ok (.invokevirtual 63, 3) := by decide +kernel
theorem dX7_takeName_16 : decode cX7_takeName 16 = .ok (.iload_n 3, 1) := by decide +kernel
theorem dX7_takeName_17 : decode cX7_takeName 17 = .ok (.ireturn, 1) := by decide +kernel
theorem dX7_tellLine_0 : decode cX7_tellLine 0 = .ok (.aload_n 0, 1) := by decide +kernel
theorem dX7_tellLine_1 : decode cX7_tellLine 1 = .ok (.getfield 15, 3) := by decide +kernel
theorem dX7_tellLine_4 : decode cX7_tellLine 4 = .ok (.astore_n 1, 1) := by decide +kernel
theorem dX7_tellLine_5 : decode cX7_tellLine 5 = .ok (.aload_n 0, 1) := by decide +kernel
theorem dX7_tellLine_6 : decode cX7_tellLine 6 = .ok (.aload_n 1, 1) := by decide +kernel
theorem dX7_tellLine_7 : decode cX7_tellLine 7 = .ok (.invokevirtual 117, 3) := by decide +kernel
theorem dX7_tellLine_10 : decode cX7_tellLine 10 = .ok (.ifCond .ne 5, 3) := by decide +kernel
theorem dX7_tellLine_13 : decode cX7_tellLine 13 = .ok (.iconst 0, 1) := by decide +kernel
theorem dX7_tellLine_14 : decode cX7_tellLine 14 = .ok (.ireturn, 1) := by decide +kernel
theorem dX7_tellLine_15 : decode cX7_tellLine 15 = .ok (.getstatic 121, 3) := by decide +kernel
theorem dX7_tellLine_18 : decode cX7_tellLine 18 = .ok (.aload_n 1, 1) := by decide +kernel
theorem dX7_tellLine_19 : decode cX7_tellLine 19 = .ok (.invokevirtual 126, 3) := by decide +kernel
theorem dX7_tellLine_22 : decode cX7_tellLine 22 = .ok (.iaload, 1) := by decide +kernel
theorem dX7_tellLine_23 : decode cX7_tellLine 23 = .ok (.tableswitch 117 1 10 #[53, 58, 63, 68, 73, 78, 83, 92, 100, 109], 53) := by decide +kernel
theorem dX7_tellLine_76 : decode cX7_tellLine 76 = .ok (.aload_n 0, 1) := by decide +kernel
theorem dX7_tellLine_77 : decode cX7_tellLine 77 = .ok (.invokevirtual 130, 3) := by decide +kernel
theorem dX7_tellLine_80 : decode cX7_tellLine 80 = .ok (.ireturn, 1) := by decide +kernel
theorem dX7_tellLine_81 : decode cX7_tellLine 81 = .ok (.aload_n 0, 1) := by decide +kernel
theorem dX7_tellLine_82 : decode cX7_tellLine 82 = .ok (.invokevirtual 134, 3) := by decide +kernel
theorem dX7_tellLine_85 : decode cX7_tellLine 85 = .ok (.ireturn, 1) := by decide +kernel
theorem dX7_tellLine_86 : decode cX7_tellLine 86 = .ok (.aload_n 0, 1) := by decide +kernel
theorem dX7_tellLine_87 : decode cX7_tellLine 87 = .ok (.invokevirtual 137, 3) := by decide +kernel
theorem dX7_tellLine_90 : decode cX7_tellLine 90 = .ok (.ireturn, 1) := by decide +kernel
theorem dX7_tellLine_91 : decode cX7_tellLine 91 = .ok (.aload_n 0, 1) := by decide +kernel
theorem dX7_tellLine_92 : decode cX7_tellLine 92 = .ok (.invokevirtual 140, 3) := by decide +kernel
theorem dX7_tellLine_95 : decode cX7_tellLine 95 = .ok (.ireturn, 1) := by decide +kernel
theorem dX7_tellLine_96 : decode cX7_tellLine 96 = .ok (.aload_n 0, 1) := by decide +kernel
theorem dX7_tellLine_97 : decode cX7_tellLine 97 = .ok (.invokevirtual 143, 3) := by decide +kernel
theorem dX7_tellLine_100 : decode cX7_tellLine 100 = .ok (.ireturn, 1) := by decide +kernel
theorem dX7_tellLine_101 : decode cX7_tellLine 101 = .ok (.aload_n 0, 1) := by decide +kernel
theorem dX7_tellLine_102 : decode cX7_tellLine 102 = .ok (.invokevirtual 146, 3) := by decide +kernel
theorem dX7_tellLine_105 : decode cX7_tellLine 105 = .ok (.ireturn, 1) := by decide +kernel
theorem dX7_tellLine_106 : decode cX7_tellLine 106 = .ok (.aload_n 0, 1) := by decide +kernel
theorem dX7_tellLine_107 : decode cX7_tellLine 107 = .ok (.iconst 0, 1) := by decide +kernel
theorem dX7_tellLine_108 : decode cX7_tellLine 108 = .ok (.sipush 999, 3) := by decide +kernel
theorem dX7_tellLine_111 : decode cX7_tellLine 111 = .ok (.invokevirtual 149, 3) := by decide +kernel
theorem dX7_tellLine_114 : decode cX7_tellLine 114 = .ok (.ireturn, 1) := by decide +kernel
theorem dX7_tellLine_115 : decode cX7_tellLine 115 = .ok (.aload_n 0, 1) := by decide +kernel
theorem dX7_tellLine_116 : decode cX7_tellLine 116 = .ok (.iconst 1, 1) := by decide +kernel
theorem dX7_tellLine_117 : decode cX7_tellLine 117 = .ok (.bipush 9, 2) := by decide +kernel
theorem dX7_tellLine_119 : decode cX7_tellLine 119 = .ok (.invokevirtual 149, 3) := by decide +kernel
theorem dX7_tellLine_122 : decode cX7_tellLine 122 = .ok (.ireturn, 1) := by decide +kernel
theorem dX7_tellLine_123 : decode cX7_tellLine 123 = .ok (.aload_n 0, 1) := by decide +kernel
theorem dX7_tellLine_124 : decode cX7_tellLine 124 = .ok (.iconst 2, 1) := by decide +kernel
theorem dX7_tellLine_125 : decode cX7_tellLine 125 = .ok (.sipush 999, 3) := by decide +kernel
theorem dX7_tellLine_128 : decode cX7_tellLine 128 = .ok (.invokevirtual 149, 3) := by decide +kernel
theorem dX7_tellLine_131 : decode cX7_tellLine 131 = .ok (.ireturn, 1) := by decide +kernel
theorem dX7_tellLine_132 : decode cX7_tellLine 132 = .ok (.aload_n 0, 1) := by decide +kernel
theorem dX7_tellLine_133 : decode cX7_tellLine 133 = .ok (.iconst 3, 1) := by decide +kernel
theorem dX7_tellLine_134 : decode cX7_tellLine 134 = .ok (.bipush 9, 2) := by decide +kernel
theorem dX7_tellLine_136 : decode cX7_tellLine 136 = .ok (.invokevirtual 149, 3) := by decide +kernel
theorem dX7_tellLine_139 : decode cX7_tellLine 139 = .ok (.ireturn, 1) := by decide +kernel
theorem dX7_tellLine_140 : decode cX7_tellLine 140 = .ok (.aload_n 0, 1) := by decide +kernel
theorem dX7_tellLine_141 : decode cX7_tellLine 141 = .ok (.iconst 1, 1) := by decide +kernel
theorem dX7_tellLine_142 : decode cX7_tellLine 142 = .ok (.invokevirtual 104, 3) := by decide +kernel
theorem dX7_tellLine_145 : decode cX7_tellLine 145 = .ok (.ireturn, 1) := by decide +kernel
theorem dX7_startLine_0 : decode cX7_startLine 0 = .ok (.aload_n 0, 1) := by decide +kernel
theorem dX7_startLine_1 : decode cX7_startLine 1 = .ok (.aload_n 1, 1) := by decide +kernel
theorem dX7_startLine_2 : decode cX7_startLine 2 = .ok (.invokevirtual 153, 3) := by decide +kernel
theorem dX7_startLine_5 : decode cX7_startLine 5 = .ok (.istore_n 2, 1) := by decide +kernel
theorem dX7_startLine_6 : decode cX7_startLine 6 = .ok (.iload_n 2, 1) := by decide +kernel
theorem dX7_startLine_7 : decode cX7_startLine 7 = .ok (.ifCond .gt 18, 3) := by decide +kernel
theorem dX7_startLine_10 : decode cX7_startLine 10 = .ok (.aload_n 0, 1) := by decide +kernel
theorem dX7_startLine_11 : decode cX7_startLine 11 = .ok (.iload_n 2, 1) := by decide +kernel
theorem dX7_startLine_12 : decode cX7_startLine 12 = .ok (.iconst (-1), 1) := by decide +kernel
theorem dX7_startLine_13 : decode cX7_startLine 13 = .ok (.if_icmp .ne 7, 3) := by decide +kernel
theorem dX7_startLine_16 : decode cX7_startLine 16 = .ok (.iconst 1, 1) := by decide +kernel
theorem dX7_startLine_17 : decode cX7_startLine 17 = .ok (.goto 4, 3) := by decide +kernel
theorem dX7_startLine_20 : decode cX7_startLine 20 = .ok (.iconst 5, 1) := by decide +kernel
theorem dX7_startLine_21 : decode cX7_startLine 21 = .ok (.invokevirtual 104, 3) := by decide +kernel
theorem dX7_startLine_24 : decode cX7_startLine 24 = .ok (.ireturn, 1) := by decide +kernel
theorem dX7_startLine_25 : decode cX7_startLine 25 = .ok (.aload_n 0, 1) := by decide +kernel
theorem dX7_startLine_26 : decode cX7_startLine 26 = .ok (.invokevirtual 63, 3) := by decide +kernel
theorem dX7_startLine_29 : decode cX7_startLine 29 = .ok (.iconst 1, 1) := by decide +kernel
theorem dX7_startLine_30 : decode cX7_startLine 30 = .ok (.ireturn, 1) := by decide +kernel
theorem dX7_roomFor_0 : decode cX7_roomFor 0 = .ok (.getstatic 121, 3) := by decide +kernel
theorem dX7_roomFor_3 : decode cX7_roomFor 3 = .ok (.aload_n 1, 1) := by decide +kernel
theorem dX7_roomFor_4 : decode cX7_roomFor 4 = .ok (.invokevirtual 126, 3) := by decide +kernel
theorem dX7_roomFor_7 : decode cX7_roomFor 7 = .ok (.iaload, 1) := by decide +kernel
theorem dX7_roomFor_8 : decode cX7_roomFor 8 = .ok (.tableswitch 142 1 10 #[56, 66, 77, 87, 97, 107, 118, 124, 130, 136], 56) := by decide +kernel
theorem dX7_roomFor_64 : decode cX7_roomFor 64 = .ok (.iconst 5, 1) := by decide +kernel
theorem dX7_roomFor_65 : decode cX7_roomFor 65 = .ok (.aload_n 0, 1) := by decide +kernel
theorem dX7_roomFor_66 : decode cX7_roomFor 66 = .ok (.getfield 35, 3) := by decide +kernel
theorem dX7_roomFor_69 : decode cX7_roomFor 69 = .ok (.getfield 157, 3) := by decide +kernel
theorem dX7_roomFor_72 : decode cX7_roomFor 72 = .ok (.isub, 1) := by decide +kernel
theorem dX7_roomFor_73 : decode cX7_roomFor 73 = .ok (.ireturn, 1) := by decide +kernel
theorem dX7_roomFor_74 : decode cX7_roomFor 74 = .ok (.bipush 6, 2) := by decide +kernel
theorem dX7_roomFor_76 : decode cX7_roomFor 76 = .ok (.aload_n 0, 1) := by decide +kernel
theorem dX7_roomFor_77 : decode cX7_roomFor 77 = .ok (.getfield 35, 3) := by decide +kernel
theorem dX7_roomFor_80 : decode cX7_roomFor 80 = .ok (.getfield 160, 3) := by decide +kernel
theorem dX7_roomFor_83 : decode cX7_roomFor 83 = .ok (.isub, 1) := by decide +kernel
theorem dX7_roomFor_84 : decode cX7_roomFor 84 = .ok (.ireturn, 1) := by decide +kernel
theorem dX7_roomFor_85 : decode cX7_roomFor 85 = .ok (.iconst 4, 1) := by decide +kernel
theorem dX7_roomFor_86 : decode cX7_roomFor 86 = .ok (.aload_n 0, 1) := by decide +kernel
theorem dX7_roomFor_87 : decode cX7_roomFor 87 = .ok (.getfield 35, 3) := by decide +kernel
theorem dX7_roomFor_90 : decode cX7_roomFor 90 = .ok (.getfield 163, 3) := by decide +kernel
theorem dX7_roomFor_93 : decode cX7_roomFor 93 = .ok (.isub, 1) := by decide +kernel
theorem dX7_roomFor_94 : decode cX7_roomFor 94 = .ok (.ireturn, 1) := by decide +kernel
theorem dX7_roomFor_95 : decode cX7_roomFor 95 = .ok (.iconst 5, 1) := by decide +kernel
theorem dX7_roomFor_96 : decode cX7_roomFor 96 = .ok (.aload_n 0, 1) := by decide +kernel
theorem dX7_roomFor_97 : decode cX7_roomFor 97 = .ok (.getfield 35, 3) := by decide +kernel
theorem dX7_roomFor_100 : decode cX7_roomFor 100 = .ok (.getfield 166, 3) := by decide +kernel
theorem dX7_roomFor_103 : decode cX7_roomFor 103 = .ok (.isub, 1) := by decide +kernel
theorem dX7_roomFor_104 : decode cX7_roomFor 104 = .ok (.ireturn, 1) := by decide +kernel
theorem dX7_roomFor_105 : decode cX7_roomFor 105 = .ok (.iconst 3, 1) := by decide +kernel
theorem dX7_roomFor_106 : decode cX7_roomFor 106 = .ok (.aload_n 0, 1) := by decide +kernel
theorem dX7_roomFor_107 : decode cX7_roomFor 107 = .ok (.getfield 35, 3) := by decide +kernel
theorem dX7_roomFor_110 : decode cX7_roomFor 110 = .ok (.getfield 169, 3) := by decide +kernel
theorem dX7_roomFor_113 : decode cX7_roomFor 113 = .ok (.isub, 1) := by decide +kernel
theorem dX7_roomFor_114 : decode cX7_roomFor 114 = .ok (.ireturn, 1) := by decide +kernel
theorem dX7_roomFor_115 : decode cX7_roomFor 115 = .ok (.bipush 8, 2) := by decide +kernel
theorem dX7_roomFor_117 : decode cX7_roomFor 117 = .ok (.aload_n 0, 1) := by decide +kernel
theorem dX7_roomFor_118 : decode cX7_roomFor 118 = .ok (.getfield 35, 3) := by decide +kernel
theorem dX7_roomFor_121 : decode cX7_roomFor 121 = .ok (.getfield 172, 3) := by decide +kernel
theorem dX7_roomFor_124 : decode cX7_roomFor 124 = .ok (.isub, 1) := by decide +kernel
theorem dX7_roomFor_125 : decode cX7_roomFor 125 = .ok (.ireturn, 1) := by decide +kernel
theorem dX7_roomFor_126 : decode cX7_roomFor 126 = .ok (.aload_n 0, 1) := by decide +kernel
theorem dX7_roomFor_127 : decode cX7_roomFor 127 = .ok (.iconst 0, 1) := by decide +kernel
theorem dX7_roomFor_128 : decode cX7_roomFor 128 = .ok (.invokevirtual 175, 3) := by decide +kernel
theorem dX7_roomFor_131 : decode cX7_roomFor 131 = .ok (.ireturn, 1) := by decide +kernel
theorem dX7_roomFor_132 : decode cX7_roomFor 132 = .ok (.aload_n 0, 1) := by decide +kernel
theorem dX7_roomFor_133 : decode cX7_roomFor 133 = .ok (.iconst 1, 1) := by decide +kernel
theorem dX7_roomFor_134 : decode cX7_roomFor 134 = .ok (.invokevirtual 175, 3) := by decide +kernel
theorem dX7_roomFor_137 : decode cX7_roomFor 137 = .ok (.ireturn, 1) := by decide +kernel
theorem dX7_roomFor_138 : decode cX7_roomFor 138 = .ok (.aload_n 0, 1) := by decide +kernel
theorem dX7_roomFor_139 : decode cX7_roomFor 139 = .ok (.iconst 2, 1) := by decide +kernel
theorem dX7_roomFor_140 : decode cX7_roomFor 140 = .ok (.invokevirtual 175, 3) := by decide +kernel
theorem dX7_roomFor_143 : decode cX7_roomFor 143 = .ok (.ireturn, 1) := by decide +kernel
theorem dX7_roomFor_144 : decode cX7_roomFor 144 = .ok (.aload_n 0, 1) := by decide +kernel
theorem dX7_roomFor_145 : decode cX7_roomFor 145 = .ok (.iconst 3, 1) := by decide +kernel
theorem dX7_roomFor_146 : decode cX7_roomFor 146 = .ok (.invokevirtual 175, 3) := by decide +kernel
theorem dX7_roomFor_149 : decode cX7_roomFor 149 = .ok (.ireturn, 1) := by decide +kernel
theorem dX7_roomFor_150 : decode cX7_roomFor 150 = .ok (.iconst (-1), 1) := by decide +kernel
theorem dX7_roomFor_151 : decode cX7_roomFor 151 = .ok (.ireturn, 1) := by decide +kernel
theorem dX7_roomForSetting_0 : decode cX7_roomForSetting 0 = .ok (.iconst 1, 1) := by decide +kernel
theorem dX7_roomForSetting_1 : decode cX7_roomForSetting 1 = .ok (.aload_n 0, 1) := by decide +kernel
theorem dX7_roomForSetting_2 : decode cX7_roomForSetting 2 = .ok (.getfield 60, 3) := by decide +kernel
theorem dX7_roomForSetting_5 : decode cX7_roomForSetting 5 = .ok (.iload_n 1, 1) := by decide +kernel
theorem dX7_roomForSetting_6 : decode cX7_roomForSetting 6 = .ok (.ishr, 1) := by decide +kernel
theorem dX7_roomForSetting_7 : decode cX7_roomForSetting 7 = .ok (.iconst 1, 1) := by decide +kernel
theorem dX7_roomForSetting_8 : decode cX7_roomForSetting 8 = .ok (.iand, 1) := by decide +kernel
theorem dX7_roomForSetting_9 : decode cX7_roomForSetting 9 = .ok (.isub, 1) := by decide +kernel
theorem dX7_roomForSetting_10 : decode cX7_roomForSetting 10 = .ok (.ireturn, 1) := by decide +kernel
theorem dX7_tellSetting_0 : decode cX7_tellSetting 0 = .ok (.aload_n 0, 1) := by decide +kernel
theorem dX7_tellSetting_1 : decode cX7_tellSetting 1 = .ok (.iconst 0, 1) := by decide +kernel
theorem dX7_tellSetting_2 : decode cX7_tellSetting 2 = .ok (.iload_n 2, 1) := by decide +kernel
theorem dX7_tellSetting_3 : decode cX7_tellSetting 3 = .ok (.invokevirtual 179, 3) := by decide +kernel
theorem dX7_tellSetting_6 : decode cX7_tellSetting 6 = .ok (.ifCond .ne 5, 3) := by decide +kernel
theorem dX7_tellSetting_9 : decode cX7_tellSetting 9 = .ok (.iconst 0, 1) := by decide +kernel
theorem dX7_tellSetting_10 : decode cX7_tellSetting 10 = .ok (.ireturn, 1) := by decide +kernel
theorem dX7_tellSetting_11 : decode cX7_tellSetting 11 = .ok (.aload_n 0, 1) := by decide +kernel
theorem dX7_tellSetting_12 : decode cX7_tellSetting 12 = .ok (.getfield 35, 3) := by decide +kernel
theorem dX7_tellSetting_15 : decode cX7_tellSetting 15 = .ok (.getfield 182, 3) := by decide +kernel
theorem dX7_tellSetting_18 : decode cX7_tellSetting 18 = .ok (.iload_n 1, 1) := by decide +kernel
theorem dX7_tellSetting_19 : decode cX7_tellSetting 19 = .ok (.aload_n 0, 1) := by decide +kernel
theorem dX7_tellSetting_20 : decode cX7_tellSetting 20 = .ok (.getfield 107, 3) := by decide +kernel
theorem dX7_tellSetting_23 : decode cX7_tellSetting 23 = .ok (.iastore, 1) := by decide +kernel
theorem dX7_tellSetting_24 : decode cX7_tellSetting 24 = .ok (.aload_n 0, 1) := by decide +kernel
theorem dX7_tellSetting_25 : decode cX7_tellSetting 25 = .ok (.dup, 1) := by decide +kernel
theorem dX7_tellSetting_26 : decode cX7_tellSetting 26 = .ok (.getfield 60, 3) := by decide +kernel
theorem dX7_tellSetting_29 : decode cX7_tellSetting 29 = .ok (.iconst 1, 1) := by decide +kernel
theorem dX7_tellSetting_30 : decode cX7_tellSetting 30 = .ok (.iload_n 1, 1) := by decide +kernel
theorem dX7_tellSetting_31 : decode cX7_tellSetting 31 = .ok (.ishl, 1) := by decide +kernel
theorem dX7_tellSetting_32 : decode cX7_tellSetting 32 = .ok (.ior, 1) := by decide +kernel
theorem dX7_tellSetting_33 : decode cX7_tellSetting 33 = .ok (.putfield 60, 3) := by decide +kernel
theorem dX7_tellSetting_36 : decode cX7_tellSetting 36 = .ok (.iconst 1, 1) := by decide +kernel
theorem dX7_tellSetting_37 : decode cX7_tellSetting 37 = .ok (.ireturn, 1) := by decide +kernel
theorem dX7_tellCamera_0 : decode cX7_tellCamera 0 = .ok (.aload_n 0, 1) := by decide +kernel
theorem dX7_tellCamera_1 : decode cX7_tellCamera 1 = .ok (.getfield 35, 3) := by decide +kernel
theorem dX7_tellCamera_4 : decode cX7_tellCamera 4 = .ok (.getfield 157, 3) := by decide +kernel
theorem dX7_tellCamera_7 : decode cX7_tellCamera 7 = .ok (.istore_n 1, 1) := by decide +kernel
theorem dX7_tellCamera_8 : decode cX7_tellCamera 8 = .ok (.aload_n 0, 1) := by decide +kernel
theorem dX7_tellCamera_9 : decode cX7_tellCamera 9 = .ok (.getstatic 185, 3) := by decide +kernel
theorem dX7_tellCamera_12 : decode cX7_tellCamera 12 = .ok (.iload_n 1, 1) := by decide +kernel
theorem dX7_tellCamera_13 : decode cX7_tellCamera 13 = .ok (.invokevirtual 188, 3) := by decide +kernel
theorem dX7_tellCamera_16 : decode cX7_tellCamera 16 = .ok (.ifCond .eq 14, 3) := by decide +kernel
theorem dX7_tellCamera_19 : decode cX7_tellCamera 19 = .ok (.aload_n 0, 1) := by decide +kernel
theorem dX7_tellCamera_20 : decode cX7_tellCamera 20 = .ok (.iconst 0, 1) := by decide +kernel
theorem dX7_tellCamera_21 : decode cX7_tellCamera 21 = .ok (.sipush 999, 3) := by decide +kernel
theorem dX7_tellCamera_24 : decode cX7_tellCamera 24 = .ok (.invokevirtual 179, 3) := by decide +kernel
theorem dX7_tellCamera_27 : decode cX7_tellCamera 27 = .ok (.ifCond .ne 5, 3) := by decide +kernel
theorem dX7_tellCamera_30 : decode cX7_tellCamera 30 = .ok (.iconst 0, 1) := by decide +kernel
theorem dX7_tellCamera_31 : decode cX7_tellCamera 31 = .ok (.ireturn, 1) := by decide +kernel
theorem dX7_tellCamera_32 : decode cX7_tellCamera 32 = .ok (.aload_n 0, 1) := by decide +kernel
theorem dX7_tellCamera_33 : decode cX7_tellCamera 33 = .ok (.getfield 35, 3) := by decide +kernel
theorem dX7_tellCamera_36 : decode cX7_tellCamera 36 = .ok (.getfield 192, 3) := by decide +kernel
theorem dX7_tellCamera_39 : decode cX7_tellCamera 39 = .ok (.iload_n 1, 1) := by decide +kernel
theorem dX7_tellCamera_40 : decode cX7_tellCamera 40 = .ok (.aload_n 0, 1) := by decide +kernel
theorem dX7_tellCamera_41 : decode cX7_tellCamera 41 = .ok (.getfield 107, 3) := by decide +kernel
theorem dX7_tellCamera_44 : decode cX7_tellCamera 44 = .ok (.iastore, 1) := by decide +kernel
theorem dX7_tellCamera_45 : decode cX7_tellCamera 45 = .ok (.aload_n 0, 1) := by decide +kernel
theorem dX7_tellCamera_46 : decode cX7_tellCamera 46 = .ok (.aload_n 0, 1) := by decide +kernel
theorem dX7_tellCamera_47 : decode cX7_tellCamera 47 = .ok (.getfield 107, 3) := by decide +kernel
theorem dX7_tellCamera_50 : decode cX7_tellCamera 50 = .ok (.sipush 999, 3) := by decide +kernel
theorem dX7_tellCamera_53 : decode cX7_tellCamera 53 = .ok (.invokevirtual 179, 3) := by decide +kernel
theorem dX7_tellCamera_56 : decode cX7_tellCamera 56 = .ok (.ifCond .ne 5, 3) := by decide +kernel
theorem dX7_tellCamera_59 : decode cX7_tellCamera 59 = .ok (.iconst 0, 1) := by decide +kernel
theorem dX7_tellCamera_60 : decode cX7_tellCamera 60 = .ok (.ireturn, 1) := by decide +kernel
theorem dX7_tellCamera_61 : decode cX7_tellCamera 61 = .ok (.aload_n 0, 1) := by decide +kernel
theorem dX7_tellCamera_62 : decode cX7_tellCamera 62 = .ok (.getfield 35, 3) := by decide +kernel
theorem dX7_tellCamera_65 : decode cX7_tellCamera 65 = .ok (.getfield 195, 3) := by decide +kernel
theorem dX7_tellCamera_68 : decode cX7_tellCamera 68 = .ok (.iload_n 1, 1) := by decide +kernel
theorem dX7_tellCamera_69 : decode cX7_tellCamera 69 = .ok (.aload_n 0, 1) := by decide +kernel
theorem dX7_tellCamera_70 : decode cX7_tellCamera 70 = .ok (.getfield 107, 3) := by decide +kernel
theorem dX7_tellCamera_73 : decode cX7_tellCamera 73 = .ok (.iastore, 1) := by decide +kernel
theorem dX7_tellCamera_74 : decode cX7_tellCamera 74 = .ok (.aload_n 0, 1) := by decide +kernel
theorem dX7_tellCamera_75 : decode cX7_tellCamera 75 = .ok (.getfield 35, 3) := by decide +kernel
theorem dX7_tellCamera_78 : decode cX7_tellCamera 78 = .ok (.getfield 198, 3) := by decide +kernel
theorem dX7_tellCamera_81 : decode cX7_tellCamera 81 = .ok (.iload_n 1, 1) := by decide +kernel
theorem dX7_tellCamera_82 : decode cX7_tellCamera 82 = .ok (.aload_n 0, 1) := by decide +kernel
theorem dX7_tellCamera_83 : decode cX7_tellCamera 83 = .ok (.getfield 35, 3) := by decide +kernel
theorem dX7_tellCamera_86 : decode cX7_tellCamera 86 = .ok (.getfield 192, 3) := by decide +kernel
theorem dX7_tellCamera_89 : decode cX7_tellCamera 89 = .ok (.iload_n 1, 1) := by decide +kernel
theorem dX7_tellCamera_90 : decode cX7_tellCamera 90 = .ok (.iaload, 1) := by decide +kernel
theorem dX7_tellCamera_91 : decode cX7_tellCamera 91 = .ok (.aload_n 0, 1) := by decide +kernel
theorem dX7_tellCamera_92 : decode cX7_tellCamera 92 = .ok (.getfield 107, 3) := by decide +kernel
theorem dX7_tellCamera_95 : decode cX7_tellCamera 95 = .ok (.invokevirtual 202, 3) := by decide +kernel
theorem dX7_tellCamera_98 : decode cX7_tellCamera 98 = .ok (.aload_n 0, 1) := by decide +kernel
theorem dX7_tellCamera_99 : decode cX7_tellCamera 99 = .ok (.getfield 35, 3) := by decide +kernel
theorem dX7_tellCamera_102 : decode cX7_tellCamera 102 = .ok (.dup, 1) := by decide +kernel
theorem dX7_tellCamera_103 : decode cX7_tellCamera 103 = .ok (.getfield 157, 3) := by decide +kernel
theorem dX7_tellCamera_106 : decode cX7_tellCamera 106 = .ok (.iconst 1, 1) := by decide +kernel
theorem dX7_tellCamera_107 : decode cX7_tellCamera 107 = .ok (.iadd, 1) := by decide +kernel
theorem dX7_tellCamera_108 : decode cX7_tellCamera 108 = .ok (.putfield 157, 3) := by decide +kernel
theorem dX7_tellCamera_111 : decode cX7_tellCamera 111 = .ok (.iconst 1, 1) := by decide +kernel
theorem dX7_tellCamera_112 : decode cX7_tellCamera 112 = .ok (.ireturn, 1) := by decide +kernel
theorem dX7_tellFlash_0 : decode cX7_tellFlash 0 = .ok (.aload_n 0, 1) := by decide +kernel
theorem dX7_tellFlash_1 : decode cX7_tellFlash 1 = .ok (.getstatic 185, 3) := by decide +kernel
theorem dX7_tellFlash_4 : decode cX7_tellFlash 4 = .ok (.iconst (-1), 1) := by decide +kernel
theorem dX7_tellFlash_5 : decode cX7_tellFlash 5 = .ok (.invokevirtual 208, 3) := by decide +kernel
theorem dX7_tellFlash_8 : decode cX7_tellFlash 8 = .ok (.istore_n 1, 1) := by decide +kernel
theorem dX7_tellFlash_9 : decode cX7_tellFlash 9 = .ok (.iload_n 1, 1) := by decide +kernel
theorem dX7_tellFlash_10 : decode cX7_tellFlash 10 = .ok (.iconst (-1), 1) := by decide +kernel
theorem dX7_tellFlash_11 : decode cX7_tellFlash 11 = .ok (.if_icmp .eq 14, 3) := by decide +kernel
theorem dX7_tellFlash_14 : decode cX7_tellFlash 14 = .ok (.aload_n 0, 1) := by decide +kernel
theorem dX7_tellFlash_15 : decode cX7_tellFlash 15 = .ok (.iconst 0, 1) := by decide +kernel
theorem dX7_tellFlash_16 : decode cX7_tellFlash 16 = .ok (.sipush 999, 3) := by decide +kernel
theorem dX7_tellFlash_19 : decode cX7_tellFlash 19 = .ok (.invokevirtual 179, 3) := by decide +kernel
theorem dX7_tellFlash_22 : decode cX7_tellFlash 22 = .ok (.ifCond .ne 5, 3) := by decide +kernel
theorem dX7_tellFlash_25 : decode cX7_tellFlash 25 = .ok (.iconst 0, 1) := by decide +kernel
theorem dX7_tellFlash_26 : decode cX7_tellFlash 26 = .ok (.ireturn, 1) := by decide +kernel
theorem dX7_tellFlash_27 : decode cX7_tellFlash 27 = .ok (.aload_n 0, 1) := by decide +kernel
theorem dX7_tellFlash_28 : decode cX7_tellFlash 28 = .ok (.getfield 107, 3) := by decide +kernel
theorem dX7_tellFlash_31 : decode cX7_tellFlash 31 = .ok (.istore_n 2, 1) := by decide +kernel
theorem dX7_tellFlash_32 : decode cX7_tellFlash 32 = .ok (.aload_n 0, 1) := by decide +kernel
theorem dX7_tellFlash_33 : decode cX7_tellFlash 33 = .ok (.getstatic 185, 3) := by decide +kernel
theorem dX7_tellFlash_36 : decode cX7_tellFlash 36 = .ok (.iload_n 1, 1) := by decide +kernel
theorem dX7_tellFlash_37 : decode cX7_tellFlash 37 = .ok (.invokevirtual 208, 3) := by decide +kernel
theorem dX7_tellFlash_40 : decode cX7_tellFlash 40 = .ok (.istore_n 3, 1) := by decide +kernel
theorem dX7_tellFlash_41 : decode cX7_tellFlash 41 = .ok (.iload_n 3, 1) := by decide +kernel
theorem dX7_tellFlash_42 : decode cX7_tellFlash 42 = .ok (.iconst (-1), 1) := by decide +kernel
theorem dX7_tellFlash_43 : decode cX7_tellFlash 43 = .ok (.if_icmp .eq 14, 3) := by decide +kernel
theorem dX7_tellFlash_46 : decode cX7_tellFlash 46 = .ok (.aload_n 0, 1) := by decide +kernel
theorem dX7_tellFlash_47 : decode cX7_tellFlash 47 = .ok (.iconst 0, 1) := by decide +kernel
theorem dX7_tellFlash_48 : decode cX7_tellFlash 48 = .ok (.sipush 999, 3) := by decide +kernel
theorem dX7_tellFlash_51 : decode cX7_tellFlash 51 = .ok (.invokevirtual 179, 3) := by decide +kernel
theorem dX7_tellFlash_54 : decode cX7_tellFlash 54 = .ok (.ifCond .ne 5, 3) := by decide +kernel
theorem dX7_tellFlash_57 : decode cX7_tellFlash 57 = .ok (.iconst 0, 1) := by decide +kernel
theorem dX7_tellFlash_58 : decode cX7_tellFlash 58 = .ok (.ireturn, 1) := by decide +kernel
theorem dX7_tellFlash_59 : decode cX7_tellFlash 59 = .ok (.aload_n 0, 1) := by decide +kernel
theorem dX7_tellFlash_60 : decode cX7_tellFlash 60 = .ok (.getfield 35, 3) := by decide +kernel
theorem dX7_tellFlash_63 : decode cX7_tellFlash 63 = .ok (.getfield 198, 3) := by decide +kernel
theorem dX7_tellFlash_66 : decode cX7_tellFlash 66 = .ok (.iload_n 1, 1) := by decide +kernel
theorem dX7_tellFlash_67 : decode cX7_tellFlash 67 = .ok (.iload_n 2, 1) := by decide +kernel
theorem dX7_tellFlash_68 : decode cX7_tellFlash 68 = .ok (.iload_n 3, 1) := by decide +kernel
theorem dX7_tellFlash_69 : decode cX7_tellFlash 69 = .ok (.aload_n 0, 1) := by decide +kernel
theorem dX7_tellFlash_70 : decode cX7_tellFlash 70 = .ok (.getfield 107, 3) := by decide +kernel
theorem dX7_tellFlash_73 : decode cX7_tellFlash 73 = .ok (.invokevirtual 211, 3) := by decide +kernel
theorem dX7_tellFlash_76 : decode cX7_tellFlash 76 = .ok (.aload_n 0, 1) := by decide +kernel
theorem dX7_tellFlash_77 : decode cX7_tellFlash 77 = .ok (.getfield 35, 3) := by decide +kernel
theorem dX7_tellFlash_80 : decode cX7_tellFlash 80 = .ok (.dup, 1) := by decide +kernel
theorem dX7_tellFlash_81 : decode cX7_tellFlash 81 = .ok (.getfield 160, 3) := by decide +kernel
theorem dX7_tellFlash_84 : decode cX7_tellFlash 84 = .ok (.iconst 1, 1) := by decide +kernel
theorem dX7_tellFlash_85 : decode cX7_tellFlash 85 = .ok (.iadd, 1) := by decide +kernel
theorem dX7_tellFlash_86 : decode cX7_tellFlash 86 = .ok (.putfield 160, 3) := by decide +kernel
theorem dX7_tellFlash_89 : decode cX7_tellFlash 89 = .ok (.iconst 1, 1) := by decide +kernel
theorem dX7_tellFlash_90 : decode cX7_tellFlash 90 = .ok (.ireturn, 1) := by decide +kernel
theorem dX7_tellSide_0 : decode cX7_tellSide 0 = .ok (.aload_n 0, 1) := by decide +kernel
theorem dX7_tellSide_1 : decode cX7_tellSide 1 = .ok (.getstatic 214, 3) := by decide +kernel
theorem dX7_tellSide_4 : decode cX7_tellSide 4 = .ok (.aload_n 0, 1) := by decide +kernel
theorem dX7_tellSide_5 : decode cX7_tellSide 5 = .ok (.getfield 35, 3) := by decide +kernel
theorem dX7_tellSide_8 : decode cX7_tellSide 8 = .ok (.getfield 163, 3) := by decide +kernel
theorem dX7_tellSide_11 : decode cX7_tellSide 11 = .ok (.invokevirtual 188, 3) := by decide +kernel
theorem dX7_tellSide_14 : decode cX7_tellSide 14 = .ok (.ifCond .eq 13, 3) := by decide +kernel
theorem dX7_tellSide_17 : decode cX7_tellSide 17 = .ok (.aload_n 0, 1) := by decide +kernel
theorem dX7_tellSide_18 : decode cX7_tellSide 18 = .ok (.iconst 0, 1) := by decide +kernel
theorem dX7_tellSide_19 : decode cX7_tellSide 19 = .ok (.bipush 9, 2) := by decide +kernel
theorem dX7_tellSide_21 : decode cX7_tellSide 21 = .ok (.invokevirtual 179, 3) := by decide +kernel
theorem dX7_tellSide_24 : decode cX7_tellSide 24 = .ok (.ifCond .ne 5, 3) := by decide +kernel
theorem dX7_tellSide_27 : decode cX7_tellSide 27 = .ok (.iconst 0, 1) := by decide +kernel
theorem dX7_tellSide_28 : decode cX7_tellSide 28 = .ok (.ireturn, 1) := by decide +kernel
theorem dX7_tellSide_29 : decode cX7_tellSide 29 = .ok (.aload_n 0, 1) := by decide +kernel
theorem dX7_tellSide_30 : decode cX7_tellSide 30 = .ok (.getfield 35, 3) := by decide +kernel
theorem dX7_tellSide_33 : decode cX7_tellSide 33 = .ok (.getfield 217, 3) := by decide +kernel
theorem dX7_tellSide_36 : decode cX7_tellSide 36 = .ok (.aload_n 0, 1) := by decide +kernel
theorem dX7_tellSide_37 : decode cX7_tellSide 37 = .ok (.getfield 35, 3) := by decide +kernel
theorem dX7_tellSide_40 : decode cX7_tellSide 40 = .ok (.getfield 163, 3) := by decide +kernel
theorem dX7_tellSide_43 : decode cX7_tellSide 43 = .ok (.aload_n 0, 1) := by decide +kernel
theorem dX7_tellSide_44 : decode cX7_tellSide 44 = .ok (.getfield 107, 3) := by decide +kernel
theorem dX7_tellSide_47 : decode cX7_tellSide 47 = .ok (.iastore, 1) := by decide +kernel
theorem dX7_tellSide_48 : decode cX7_tellSide 48 = .ok (.aload_n 0, 1) := by decide +kernel
theorem dX7_tellSide_49 : decode cX7_tellSide 49 = .ok (.getfield 35, 3) := by decide +kernel
theorem dX7_tellSide_52 : decode cX7_tellSide 52 = .ok (.dup, 1) := by decide +kernel
theorem dX7_tellSide_53 : decode cX7_tellSide 53 = .ok (.getfield 163, 3) := by decide +kernel
theorem dX7_tellSide_56 : decode cX7_tellSide 56 = .ok (.iconst 1, 1) := by decide +kernel
theorem dX7_tellSide_57 : decode cX7_tellSide 57 = .ok (.iadd, 1) := by decide +kernel
theorem dX7_tellSide_58 : decode cX7_tellSide 58 = .ok (.putfield 163, 3) := by decide +kernel
theorem dX7_tellSide_61 : decode cX7_tellSide 61 = .ok (.iconst 1, 1) := by decide +kernel
theorem dX7_tellSide_62 : decode cX7_tellSide 62 = .ok (.ireturn, 1) := by decide +kernel
theorem dX7_tellKind_0 : decode cX7_tellKind 0 = .ok (.aload_n 0, 1) := by decide +kernel
theorem dX7_tellKind_1 : decode cX7_tellKind 1 = .ok (.getfield 35, 3) := by decide +kernel
theorem dX7_tellKind_4 : decode cX7_tellKind 4 = .ok (.getfield 220, 3) := by decide +kernel
theorem dX7_tellKind_7 : decode cX7_tellKind 7 = .ok (.aload_n 0, 1) := by decide +kernel
theorem dX7_tellKind_8 : decode cX7_tellKind 8 = .ok (.getfield 35, 3) := by decide +kernel
theorem dX7_tellKind_11 : decode cX7_tellKind 11 = .ok (.getfield 166, 3) := by decide +kernel
theorem dX7_tellKind_14 : decode cX7_tellKind 14 = .ok (.aaload, 1) := by decide +kernel
theorem dX7_tellKind_15 : decode cX7_tellKind 15 = .ok (.astore_n 1, 1) := by decide +kernel
theorem dX7_tellKind_16 : decode cX7_tellKind 16 = .ok (.aload_n 0, 1) := by decide +kernel
theorem dX7_tellKind_17 : decode cX7_tellKind 17 = .ok (.getstatic 224, 3) := by decide +kernel
theorem dX7_tellKind_20 : decode cX7_tellKind 20 = .ok (.aload_n 0, 1) := by decide +kernel
theorem dX7_tellKind_21 : decode cX7_tellKind 21 = .ok (.getfield 35, 3) := by decide +kernel
theorem dX7_tellKind_24 : decode cX7_tellKind 24 = .ok (.getfield 166, 3) := by decide +kernel
theorem dX7_tellKind_27 : decode cX7_tellKind 27 = .ok (.invokevirtual 188, 3) := by decide +kernel
theorem dX7_tellKind_30 : decode cX7_tellKind 30 = .ok (.ifCond .eq 13, 3) := by decide +kernel
theorem dX7_tellKind_33 : decode cX7_tellKind 33 = .ok (.aload_n 0, 1) := by decide +kernel
theorem dX7_tellKind_34 : decode cX7_tellKind 34 = .ok (.iconst 1, 1) := by decide +kernel
theorem dX7_tellKind_35 : decode cX7_tellKind 35 = .ok (.bipush 60, 2) := by decide +kernel
theorem dX7_tellKind_37 : decode cX7_tellKind 37 = .ok (.invokevirtual 179, 3) := by decide +kernel
theorem dX7_tellKind_40 : decode cX7_tellKind 40 = .ok (.ifCond .ne 5, 3) := by decide +kernel
theorem dX7_tellKind_43 : decode cX7_tellKind 43 = .ok (.iconst 0, 1) := by decide +kernel
theorem dX7_tellKind_44 : decode cX7_tellKind 44 = .ok (.ireturn, 1) := by decide +kernel
theorem dX7_tellKind_45 : decode cX7_tellKind 45 = .ok (.aload_n 1, 1) := by decide +kernel
theorem dX7_tellKind_46 : decode cX7_tellKind 46 = .ok (.aload_n 0, 1) := by decide +kernel
theorem dX7_tellKind_47 : decode cX7_tellKind 47 = .ok (.getfield 107, 3) := by decide +kernel
theorem dX7_tellKind_50 : decode cX7_tellKind 50 = .ok (.putfield 227, 3) := by decide +kernel
theorem dX7_tellKind_53 : decode cX7_tellKind 53 = .ok (.aload_n 1, 1) := by decide +kernel
theorem dX7_tellKind_54 : decode cX7_tellKind 54 = .ok (.aload_n 0, 1) := by decide +kernel
theorem dX7_tellKind_55 : decode cX7_tellKind 55 = .ok (.getstatic 232, 3) := by decide +kernel
theorem dX7_tellKind_58 : decode cX7_tellKind 58 = .ok (.invokevirtual 235, 3) := by decide +kernel
theorem dX7_tellKind_61 : decode cX7_tellKind 61 = .ok (.putfield 238, 3) := by decide +kernel
theorem dX7_tellKind_64 : decode cX7_tellKind 64 = .ok (.aload_n 1, 1) := by decide +kernel
theorem dX7_tellKind_65 : decode cX7_tellKind 65 = .ok (.aload_n 0, 1) := by decide +kernel
theorem dX7_tellKind_66 : decode cX7_tellKind 66 = .ok (.getstatic 242, 3) := by decide +kernel
theorem dX7_tellKind_69 : decode cX7_tellKind 69 = .ok (.invokevirtual 235, 3) := by decide +kernel
theorem dX7_tellKind_72 : decode cX7_tellKind 72 = .ok (.putfield 245, 3) := by decide +kernel
theorem dX7_tellKind_75 : decode cX7_tellKind 75 = .ok (.aload_n 1, 1) := by decide +kernel
theorem dX7_tellKind_76 : decode cX7_tellKind 76 = .ok (.iconst 0, 1) := by decide +kernel
theorem dX7_tellKind_77 : decode cX7_tellKind 77 = .ok (.putfield 248, 3) := by decide +kernel
theorem dX7_tellKind_80 : decode cX7_tellKind 80 = .ok (.aload_n 0, 1) := by decide +kernel
theorem dX7_tellKind_81 : decode cX7_tellKind 81 = .ok (.aload_n 1, 1) := by decide +kernel
theorem dX7_tellKind_82 : decode cX7_tellKind 82 = .ok (.invokevirtual 251, 3) := by decide +kernel
theorem dX7_tellKind_85 : decode cX7_tellKind 85 = .ok (.ifCond .ne 5, 3) := by decide +kernel
theorem dX7_tellKind_88 : decode cX7_tellKind 88 = .ok (.iconst 0, 1) := by decide +kernel
theorem dX7_tellKind_89 : decode cX7_tellKind 89 = .ok (.ireturn, 1) := by decide +kernel
theorem dX7_tellKind_90 : decode cX7_tellKind 90 = .ok (.iconst 0, 1) := by decide +kernel
theorem dX7_tellKind_91 : decode cX7_tellKind 91 = .ok (.istore_n 2, 1) := by decide +kernel
theorem dX7_tellKind_92 : decode cX7_tellKind 92 = .ok (.iload_n 2, 1) := by decide +kernel
theorem dX7_tellKind_93 : decode cX7_tellKind 93 = .ok (.iconst 3, 1) := by decide +kernel
theorem dX7_tellKind_94 : decode cX7_tellKind 94 = .ok (.if_icmp .ge 47, 3) := by decide +kernel
theorem dX7_tellKind_97 : decode cX7_tellKind 97 = .ok (.aload_n 0, 1) := by decide +kernel
theorem dX7_tellKind_98 : decode cX7_tellKind 98 = .ok (.getfield 15, 3) := by decide +kernel
theorem dX7_tellKind_101 : decode cX7_tellKind 101 = .ok (.getstatic 255, 3) := by decide +kernel
theorem dX7_tellKind_104 : decode cX7_tellKind 104 = .ok (.if_acmp .ne 37, 3) := by decide +kernel
theorem dX7_tellKind_107 : decode cX7_tellKind 107 = .ok (.aload_n 1, 1) := by decide +kernel
theorem dX7_tellKind_108 : decode cX7_tellKind 108 = .ok (.getfield 248, 3) := by decide +kernel
theorem dX7_tellKind_111 : decode cX7_tellKind 111 = .ok (.iconst 3, 1) := by decide +kernel
theorem dX7_tellKind_112 : decode cX7_tellKind 112 = .ok (.if_icmp .ne 9, 3) := by decide +kernel
theorem dX7_tellKind_115 : decode cX7_tellKind 115 = .ok (.aload_n 0, 1) := by decide +kernel
theorem dX7_tellKind_116 : decode cX7_tellKind 116 = .ok (.iconst 5, 1) := by decide +kernel
theorem dX7_tellKind_117 : decode cX7_tellKind 117 = .ok (.invokevirtual 104, 3) := by decide +kernel
theorem dX7_tellKind_120 : decode cX7_tellKind 120 = .ok (.ireturn, 1) := by decide +kernel
theorem dX7_tellKind_121 : decode cX7_tellKind 121 = .ok (.aload_n 0, 1) := by decide +kernel
theorem dX7_tellKind_122 : decode cX7_tellKind 122 = .ok (.invokevirtual 63, 3) := by decide +kernel
theorem dX7_tellKind_125 : decode cX7_tellKind 125 = .ok (.aload_n 0, 1) := by decide +kernel
theorem dX7_tellKind_126 : decode cX7_tellKind 126 = .ok (.aload_n 1, 1) := by decide +kernel
theorem dX7_tellKind_127 : decode cX7_tellKind 127 = .ok (.invokevirtual 251, 3) := by decide +kernel
theorem dX7_tellKind_130 : decode cX7_tellKind 130 = .ok (.ifCond .ne 5, 3) := by decide +kernel
theorem dX7_tellKind_133 : decode cX7_tellKind 133 = .ok (.iconst 0, 1) := by decide +kernel
theorem dX7_tellKind_134 : decode cX7_tellKind 134 = .ok (.ireturn, 1) := by decide +kernel
theorem dX7_tellKind_135 : decode cX7_tellKind 135 = .ok (.iinc 2 1, 3) := by decide +kernel
theorem dX7_tellKind_138 : decode cX7_tellKind 138 = .ok (.goto (-46), 3) := by decide +kernel
theorem dX7_tellKind_141 : decode cX7_tellKind 141 = .ok (.aload_n 0, 1) := by decide +kernel
theorem dX7_tellKind_142 : decode cX7_tellKind 142 = .ok (.getfield 35, 3) := by decide +kernel
theorem dX7_tellKind_145 : decode cX7_tellKind 145 = .ok (.dup, 1) := by decide +kernel
theorem dX7_tellKind_146 : decode cX7_tellKind 146 = .ok (.getfield 166, 3) := by decide +kernel
theorem dX7_tellKind_149 : decode cX7_tellKind 149 = .ok (.iconst 1, 1) := by decide +kernel
theorem dX7_tellKind_150 : decode cX7_tellKind 150 = .ok (.iadd, 1) := by decide +kernel
theorem dX7_tellKind_151 : decode cX7_tellKind 151 = .ok (.putfield 166, 3) := by decide +kernel
theorem dX7_tellKind_154 : decode cX7_tellKind 154 = .ok (.iconst 1, 1) := by decide +kernel
theorem dX7_tellKind_155 : decode cX7_tellKind 155 = .ok (.ireturn, 1) := by decide +kernel
theorem dX7_tellPair_0 : decode cX7_tellPair 0 = .ok (.aload_n 0, 1) := by decide +kernel
theorem dX7_tellPair_1 : decode cX7_tellPair 1 = .ok (.iconst 0, 1) := by decide +kernel
theorem dX7_tellPair_2 : decode cX7_tellPair 2 = .ok (.invokevirtual 258, 3) := by decide +kernel
theorem dX7_tellPair_5 : decode cX7_tellPair 5 = .ok (.ifCond .ne 5, 3) := by decide +kernel
theorem dX7_tellPair_8 : decode cX7_tellPair 8 = .ok (.iconst 0, 1) := by decide +kernel
theorem dX7_tellPair_9 : decode cX7_tellPair 9 = .ok (.ireturn, 1) := by decide +kernel
theorem dX7_tellPair_10 : decode cX7_tellPair 10 = .ok (.aload_n 0, 1) := by decide +kernel
theorem dX7_tellPair_11 : decode cX7_tellPair 11 = .ok (.getfield 107, 3) := by decide +kernel
theorem dX7_tellPair_14 : decode cX7_tellPair 14 = .ok (.istore_n 2, 1) := by decide +kernel
theorem dX7_tellPair_15 : decode cX7_tellPair 15 = .ok (.aload_n 0, 1) := by decide +kernel
theorem dX7_tellPair_16 : decode cX7_tellPair 16 = .ok (.getstatic 261, 3) := by decide +kernel
theorem dX7_tellPair_19 : decode cX7_tellPair 19 = .ok (.invokevirtual 264, 3) := by decide +kernel
theorem dX7_tellPair_22 : decode cX7_tellPair 22 = .ok (.ifCond .eq 13, 3) := by decide +kernel
theorem dX7_tellPair_25 : decode cX7_tellPair 25 = .ok (.aload_n 0, 1) := by decide +kernel
theorem dX7_tellPair_26 : decode cX7_tellPair 26 = .ok (.iconst 1, 1) := by decide +kernel
theorem dX7_tellPair_27 : decode cX7_tellPair 27 = .ok (.iload_n 2, 1) := by decide +kernel
theorem dX7_tellPair_28 : decode cX7_tellPair 28 = .ok (.ishl, 1) := by decide +kernel
theorem dX7_tellPair_29 : decode cX7_tellPair 29 = .ok (.invokevirtual 258, 3) := by decide +kernel
theorem dX7_tellPair_32 : decode cX7_tellPair 32 = .ok (.ifCond .ne 5, 3) := by decide +kernel
theorem dX7_tellPair_35 : decode cX7_tellPair 35 = .ok (.iconst 0, 1) := by decide +kernel
theorem dX7_tellPair_36 : decode cX7_tellPair 36 = .ok (.ireturn, 1) := by decide +kernel
theorem dX7_tellPair_37 : decode cX7_tellPair 37 = .ok (.aload_n 1, 1) := by decide +kernel
theorem dX7_tellPair_38 : decode cX7_tellPair 38 = .ok (.getfield 267, 3) := by decide +kernel
theorem dX7_tellPair_41 : decode cX7_tellPair 41 = .ok (.aload_n 1, 1) := by decide +kernel
theorem dX7_tellPair_42 : decode cX7_tellPair 42 = .ok (.getfield 248, 3) := by decide +kernel
theorem dX7_tellPair_45 : decode cX7_tellPair 45 = .ok (.iload_n 2, 1) := by decide +kernel
theorem dX7_tellPair_46 : decode cX7_tellPair 46 = .ok (.iastore, 1) := by decide +kernel
theorem dX7_tellPair_47 : decode cX7_tellPair 47 = .ok (.aload_n 1, 1) := by decide +kernel
theorem dX7_tellPair_48 : decode cX7_tellPair 48 = .ok (.getfield 270, 3) := by decide +kernel
theorem dX7_tellPair_51 : decode cX7_tellPair 51 = .ok (.aload_n 1, 1) := by decide +kernel
theorem dX7_tellPair_52 : decode cX7_tellPair 52 = .ok (.getfield 248, 3) := by decide +kernel
theorem dX7_tellPair_55 : decode cX7_tellPair 55 = .ok (.aload_n 0, 1) := by decide +kernel
theorem dX7_tellPair_56 : decode cX7_tellPair 56 = .ok (.getfield 107, 3) := by decide +kernel
theorem dX7_tellPair_59 : decode cX7_tellPair 59 = .ok (.iastore, 1) := by decide +kernel
theorem dX7_tellPair_60 : decode cX7_tellPair 60 = .ok (.aload_n 1, 1) := by decide +kernel
theorem dX7_tellPair_61 : decode cX7_tellPair 61 = .ok (.dup, 1) := by decide +kernel
theorem dX7_tellPair_62 : decode cX7_tellPair 62 = .ok (.getfield 248, 3) := by decide +kernel
theorem dX7_tellPair_65 : decode cX7_tellPair 65 = .ok (.iconst 1, 1) := by decide +kernel
theorem dX7_tellPair_66 : decode cX7_tellPair 66 = .ok (.iadd, 1) := by decide +kernel
theorem dX7_tellPair_67 : decode cX7_tellPair 67 = .ok (.putfield 248, 3) := by decide +kernel
theorem dX7_tellPair_70 : decode cX7_tellPair 70 = .ok (.iconst 1, 1) := by decide +kernel
theorem dX7_tellPair_71 : decode cX7_tellPair 71 = .ok (.ireturn, 1) := by decide +kernel
theorem dX7_tellBoard_0 : decode cX7_tellBoard 0 = .ok (.aload_n 0, 1) := by decide +kernel
theorem dX7_tellBoard_1 : decode cX7_tellBoard 1 = .ok (.getfield 35, 3) := by decide +kernel
theorem dX7_tellBoard_4 : decode cX7_tellBoard 4 = .ok (.getfield 273, 3) := by decide +kernel
theorem dX7_tellBoard_7 : decode cX7_tellBoard 7 = .ok (.aload_n 0, 1) := by decide +kernel
theorem dX7_tellBoard_8 : decode cX7_tellBoard 8 = .ok (.getfield 35, 3) := by decide +kernel
theorem dX7_tellBoard_11 : decode cX7_tellBoard 11 = .ok (.getfield 169, 3) := by decide +kernel
theorem dX7_tellBoard_14 : decode cX7_tellBoard 14 = .ok (.aaload, 1) := by decide +kernel
theorem dX7_tellBoard_15 : decode cX7_tellBoard 15 = .ok (.astore_n 1, 1) := by decide +kernel
theorem dX7_tellBoard_16 : decode cX7_tellBoard 16 = .ok (.aload_n 0, 1) := by decide +kernel
theorem dX7_tellBoard_17 : decode cX7_tellBoard 17 = .ok (.getstatic 277, 3) := by decide +kernel
theorem dX7_tellBoard_20 : decode cX7_tellBoard 20 = .ok (.aload_n 0, 1) := by decide +kernel
theorem dX7_tellBoard_21 : decode cX7_tellBoard 21 = .ok (.getfield 35, 3) := by decide +kernel
theorem dX7_tellBoard_24 : decode cX7_tellBoard 24 = .ok (.getfield 169, 3) := by decide +kernel
theorem dX7_tellBoard_27 : decode cX7_tellBoard 27 = .ok (.invokevirtual 188, 3) := by decide +kernel
theorem dX7_tellBoard_30 : decode cX7_tellBoard 30 = .ok (.ifCond .eq 13, 3) := by decide +kernel
theorem dX7_tellBoard_33 : decode cX7_tellBoard 33 = .ok (.aload_n 0, 1) := by decide +kernel
theorem dX7_tellBoard_34 : decode cX7_tellBoard 34 = .ok (.iconst 1, 1) := by decide +kernel
theorem dX7_tellBoard_35 : decode cX7_tellBoard 35 = .ok (.bipush 9, 2) := by decide +kernel
theorem dX7_tellBoard_37 : decode cX7_tellBoard 37 = .ok (.invokevirtual 179, 3) := by decide +kernel
theorem dX7_tellBoard_40 : decode cX7_tellBoard 40 = .ok (.ifCond .ne 5, 3) := by decide +kernel
theorem dX7_tellBoard_43 : decode cX7_tellBoard 43 = .ok (.iconst 0, 1) := by decide +kernel
theorem dX7_tellBoard_44 : decode cX7_tellBoard 44 = .ok (.ireturn, 1) := by decide +kernel
theorem dX7_tellBoard_45 : decode cX7_tellBoard 45 = .ok (.aload_n 1, 1) := by decide +kernel
theorem dX7_tellBoard_46 : decode cX7_tellBoard 46 = .ok (.aload_n 0, 1) := by decide +kernel
theorem dX7_tellBoard_47 : decode cX7_tellBoard 47 = .ok (.getfield 107, 3) := by decide +kernel
theorem dX7_tellBoard_50 : decode cX7_tellBoard 50 = .ok (.putfield 280, 3) := by decide +kernel
theorem dX7_tellBoard_53 : decode cX7_tellBoard 53 = .ok (.aload_n 1, 1) := by decide +kernel
theorem dX7_tellBoard_54 : decode cX7_tellBoard 54 = .ok (.iconst 0, 1) := by decide +kernel
theorem dX7_tellBoard_55 : decode cX7_tellBoard 55 = .ok (.putfield 285, 3) := by decide +kernel
theorem dX7_tellBoard_58 : decode cX7_tellBoard 58 = .ok (.aload_n 0, 1) := by decide +kernel
theorem dX7_tellBoard_59 : decode cX7_tellBoard 59 = .ok (.getfield 15, 3) := by decide +kernel
theorem dX7_tellBoard_62 : decode cX7_tellBoard 62 = .ok (.getstatic 288, 3) := by decide +kernel
theorem dX7_tellBoard_65 : decode cX7_tellBoard 65 = .ok (.if_acmp .eq 9, 3) := by decide +kernel
theorem dX7_tellBoard_68 : decode cX7_tellBoard 68 = .ok (.aload_n 0, 1) := by decide +kernel
theorem dX7_tellBoard_69 : decode cX7_tellBoard 69 = .ok (.iconst 1, 1) := by decide +kernel
theorem dX7_tellBoard_70 : decode cX7_tellBoard 70 = .ok (.invokevirtual 104, 3) := by decide +kernel
theorem dX7_tellBoard_73 : decode cX7_tellBoard 73 = .ok (.ireturn, 1) := by decide +kernel
theorem dX7_tellBoard_74 : decode cX7_tellBoard 74 = .ok (.iconst 0, 1) := by decide +kernel
theorem dX7_tellBoard_75 : decode cX7_tellBoard 75 = .ok (.istore_n 2, 1) := by decide +kernel
theorem dX7_tellBoard_76 : decode cX7_tellBoard 76 = .ok (.iload_n 2, 1) := by decide +kernel
theorem dX7_tellBoard_77 : decode cX7_tellBoard 77 = .ok (.bipush 7, 2) := by decide +kernel
theorem dX7_tellBoard_79 : decode cX7_tellBoard 79 = .ok (.if_icmp .gt 45, 3) := by decide +kernel
theorem dX7_tellBoard_82 : decode cX7_tellBoard 82 = .ok (.aload_n 0, 1) := by decide +kernel
theorem dX7_tellBoard_83 : decode cX7_tellBoard 83 = .ok (.getfield 15, 3) := by decide +kernel
theorem dX7_tellBoard_86 : decode cX7_tellBoard 86 = .ok (.getstatic 288, 3) := by decide +kernel
theorem dX7_tellBoard_89 : decode cX7_tellBoard 89 = .ok (.if_acmp .ne 35, 3) := by decide +kernel
theorem dX7_tellBoard_92 : decode cX7_tellBoard 92 = .ok (.iload_n 2, 1) := by decide +kernel
theorem dX7_tellBoard_93 : decode cX7_tellBoard 93 = .ok (.bipush 7, 2) := by decide +kernel
theorem dX7_tellBoard_95 : decode cX7_tellBoard 95 = .ok (.if_icmp .ne 9, 3) := by decide +kernel
theorem dX7_tellBoard_98 : decode cX7_tellBoard 98 = .ok (.aload_n 0, 1) := by decide +kernel
theorem dX7_tellBoard_99 : decode cX7_tellBoard 99 = .ok (.iconst 5, 1) := by decide +kernel
theorem dX7_tellBoard_100 : decode cX7_tellBoard 100 = .ok (.invokevirtual 104, 3) := by decide +kernel
theorem dX7_tellBoard_103 : decode cX7_tellBoard 103 = .ok (.ireturn, 1) := by decide +kernel
theorem dX7_tellBoard_104 : decode cX7_tellBoard 104 = .ok (.aload_n 0, 1) := by decide +kernel
theorem dX7_tellBoard_105 : decode cX7_tellBoard 105 = .ok (.invokevirtual 63, 3) := by decide +kernel
theorem dX7_tellBoard_108 : decode cX7_tellBoard 108 = .ok (.aload_n 0, 1) := by decide +kernel
theorem dX7_tellBoard_109 : decode cX7_tellBoard 109 = .ok (.aload_n 1, 1) := by decide +kernel
theorem dX7_tellBoard_110 : decode cX7_tellBoard 110 = .ok (.invokevirtual 291, 3) := by decide +kernel
theorem dX7_tellBoard_113 : decode cX7_tellBoard 113 = .ok (.ifCond .ne 5, 3) := by decide +kernel
theorem dX7_tellBoard_116 : decode cX7_tellBoard 116 = .ok (.iconst 0, 1) := by decide +kernel
theorem dX7_tellBoard_117 : decode cX7_tellBoard 117 = .ok (.ireturn, 1) := by decide +kernel
theorem dX7_tellBoard_118 : decode cX7_tellBoard 118 = .ok (.iinc 2 1, 3) := by decide +kernel
theorem dX7_tellBoard_121 : decode cX7_tellBoard 121 = .ok (.goto (-45), 3) := by decide +kernel
theorem dX7_tellBoard_124 : decode cX7_tellBoard 124 = .ok (.aload_n 0, 1) := by decide +kernel
theorem dX7_tellBoard_125 : decode cX7_tellBoard 125 = .ok (.getfield 35, 3) := by decide +kernel
theorem dX7_tellBoard_128 : decode cX7_tellBoard 128 = .ok (.dup, 1) := by decide +kernel
theorem dX7_tellBoard_129 : decode cX7_tellBoard 129 = .ok (.getfield 169, 3) := by decide +kernel
theorem dX7_tellBoard_132 : decode cX7_tellBoard 132 = .ok (.iconst 1, 1) := by decide +kernel
theorem dX7_tellBoard_133 : decode cX7_tellBoard 133 = .ok (.iadd, 1) := by decide +kernel
theorem dX7_tellBoard_134 : decode cX7_tellBoard 134 = .ok (.putfield 169, 3) := by decide +kernel
theorem dX7_tellBoard_137 : decode cX7_tellBoard 137 = .ok (.iconst 1, 1) := by decide +kernel
theorem dX7_tellBoard_138 : decode cX7_tellBoard 138 = .ok (.ireturn, 1) := by decide +kernel
theorem dX7_tellMember_0 : decode cX7_tellMember 0 = .ok (.iconst 0, 1) := by decide +kernel
theorem dX7_tellMember_1 : decode cX7_tellMember 1 = .ok (.istore_n 2, 1) := by decide +kernel
theorem dX7_tellMember_2 : decode cX7_tellMember 2 = .ok (.iconst 0, 1) := by decide +kernel
theorem dX7_tellMember_3 : decode cX7_tellMember 3 = .ok (.istore_n 3, 1) := by decide +kernel
theorem dX7_tellMember_4 : decode cX7_tellMember 4 = .ok (.iload_n 3, 1) := by decide +kernel
theorem dX7_tellMember_5 : decode cX7_tellMember 5 = .ok (.sipush 600, 3) := by decide +kernel
theorem dX7_tellMember_8 : decode cX7_tellMember 8 = .ok (.if_icmp .ge 48, 3) := by decide +kernel
theorem dX7_tellMember_11 : decode cX7_tellMember 11 = .ok (.iload_n 3, 1) := by decide +kernel
theorem dX7_tellMember_12 : decode cX7_tellMember 12 = .ok (.ifCond .eq 13, 3) := by decide +kernel
theorem dX7_tellMember_15 : decode cX7_tellMember 15 = .ok (.aload_n 0, 1) := by decide +kernel
theorem dX7_tellMember_16 : decode cX7_tellMember 16 = .ok (.getfield 15, 3) := by decide +kernel
theorem dX7_tellMember_19 : decode cX7_tellMember 19 = .ok (.getstatic 295, 3) := by decide +kernel
theorem dX7_tellMember_22 : decode cX7_tellMember 22 = .ok (.if_acmp .eq 34, 3) := by decide +kernel
theorem dX7_tellMember_25 : decode cX7_tellMember 25 = .ok (.aload_n 0, 1) := by decide +kernel
theorem dX7_tellMember_26 : decode cX7_tellMember 26 = .ok (.getstatic 185, 3) := by decide +kernel
theorem dX7_tellMember_29 : decode cX7_tellMember 29 = .ok (.iconst (-1), 1) := by decide +kernel
theorem dX7_tellMember_30 : decode cX7_tellMember 30 = .ok (.invokevirtual 208, 3) := by decide +kernel
theorem dX7_tellMember_33 : decode cX7_tellMember 33 = .ok (.istore 4, 2) := by decide +kernel
theorem dX7_tellMember_35 : decode cX7_tellMember 35 = .ok (.iload 4, 2) := by decide +kernel
theorem dX7_tellMember_37 : decode cX7_tellMember 37 = .ok (.iconst (-1), 1) := by decide +kernel
theorem dX7_tellMember_38 : decode cX7_tellMember 38 = .ok (.if_icmp .ne 5, 3) := by decide +kernel
theorem dX7_tellMember_41 : decode cX7_tellMember 41 = .ok (.iconst 0, 1) := by decide +kernel
theorem dX7_tellMember_42 : decode cX7_tellMember 42 = .ok (.ireturn, 1) := by decide +kernel
theorem dX7_tellMember_43 : decode cX7_tellMember 43 = .ok (.iload_n 2, 1) := by decide +kernel
theorem dX7_tellMember_44 : decode cX7_tellMember 44 = .ok (.iconst 1, 1) := by decide +kernel
theorem dX7_tellMember_45 : decode cX7_tellMember 45 = .ok (.iload 4, 2) := by decide +kernel
theorem dX7_tellMember_47 : decode cX7_tellMember 47 = .ok (.ishl, 1) := by decide +kernel
theorem dX7_tellMember_48 : decode cX7_tellMember 48 = .ok (.ior, 1) := by decide +kernel
theorem dX7_tellMember_49 : decode cX7_tellMember 49 = .ok (.istore_n 2, 1) := by decide +kernel
theorem dX7_tellMember_50 : decode cX7_tellMember 50 = .ok (.iinc 3 1, 3) := by decide +kernel
theorem dX7_tellMember_53 : decode cX7_tellMember 53 = .ok (.goto (-49), 3) := by decide +kernel
theorem dX7_tellMember_56 : decode cX7_tellMember 56 = .ok (.aload_n 1, 1) := by decide +kernel
theorem dX7_tellMember_57 : decode cX7_tellMember 57 = .ok (.getfield 298, 3) := by decide +kernel
theorem dX7_tellMember_60 : decode cX7_tellMember 60 = .ok (.aload_n 1, 1) := by decide +kernel
theorem dX7_tellMember_61 : decode cX7_tellMember 61 = .ok (.getfield 285, 3) := by decide +kernel
theorem dX7_tellMember_64 : decode cX7_tellMember 64 = .ok (.iload_n 2, 1) := by decide +kernel
theorem dX7_tellMember_65 : decode cX7_tellMember 65 = .ok (.iastore, 1) := by decide +kernel
theorem dX7_tellMember_66 : decode cX7_tellMember 66 = .ok (.aload_n 1, 1) := by decide +kernel
theorem dX7_tellMember_67 : decode cX7_tellMember 67 = .ok (.dup, 1) := by decide +kernel
theorem dX7_tellMember_68 : decode cX7_tellMember 68 = .ok (.getfield 285, 3) := by decide +kernel
theorem dX7_tellMember_71 : decode cX7_tellMember 71 = .ok (.iconst 1, 1) := by decide +kernel
theorem dX7_tellMember_72 : decode cX7_tellMember 72 = .ok (.iadd, 1) := by decide +kernel
theorem dX7_tellMember_73 : decode cX7_tellMember 73 = .ok (.putfield 285, 3) := by decide +kernel
theorem dX7_tellMember_76 : decode cX7_tellMember 76 = .ok (.aload_n 0, 1) := by decide +kernel
theorem dX7_tellMember_77 : decode cX7_tellMember 77 = .ok (.getstatic 295, 3) := by decide +kernel
theorem dX7_tellMember_80 : decode cX7_tellMember 80 = .ok (.invokevirtual 264, 3) := by decide +kernel
theorem dX7_tellMember_83 : decode cX7_tellMember 83 = .ok (.ireturn, 1) := by decide +kernel
theorem dX7_tellPlay_0 : decode cX7_tellPlay 0 = .ok (.aload_n 0, 1) := by decide +kernel
theorem dX7_tellPlay_1 : decode cX7_tellPlay 1 = .ok (.getfield 35, 3) := by decide +kernel
theorem dX7_tellPlay_4 : decode cX7_tellPlay 4 = .ok (.getfield 300, 3) := by decide +kernel
theorem dX7_tellPlay_7 : decode cX7_tellPlay 7 = .ok (.aload_n 0, 1) := by decide +kernel
theorem dX7_tellPlay_8 : decode cX7_tellPlay 8 = .ok (.getfield 35, 3) := by decide +kernel
theorem dX7_tellPlay_11 : decode cX7_tellPlay 11 = .ok (.getfield 172, 3) := by decide +kernel
theorem dX7_tellPlay_14 : decode cX7_tellPlay 14 = .ok (.aaload, 1) := by decide +kernel
theorem dX7_tellPlay_15 : decode cX7_tellPlay 15 = .ok (.astore_n 1, 1) := by decide +kernel
theorem dX7_tellPlay_16 : decode cX7_tellPlay 16 = .ok (.aload_n 1, 1) := by decide +kernel
theorem dX7_tellPlay_17 : decode cX7_tellPlay 17 = .ok (.invokevirtual 304, 3) := by decide +kernel
theorem dX7_tellPlay_20 : decode cX7_tellPlay 20 = .ok (.aload_n 0, 1) := by decide +kernel
theorem dX7_tellPlay_21 : decode cX7_tellPlay 21 = .ok (.getfield 35, 3) := by decide +kernel
theorem dX7_tellPlay_24 : decode cX7_tellPlay 24 = .ok (.getfield 172, 3) := by decide +kernel
theorem dX7_tellPlay_27 : decode cX7_tellPlay 27 = .ok (.ifCond .ne 7, 3) := by decide +kernel
theorem dX7_tellPlay_30 : decode cX7_tellPlay 30 = .ok (.iconst 0, 1) := by decide +kernel
theorem dX7_tellPlay_31 : decode cX7_tellPlay 31 = .ok (.goto 23, 3) := by decide +kernel
theorem dX7_tellPlay_34 : decode cX7_tellPlay 34 = .ok (.aload_n 0, 1) := by decide +kernel
theorem dX7_tellPlay_35 : decode cX7_tellPlay 35 = .ok (.getfield 35, 3) := by decide +kernel
theorem dX7_tellPlay_38 : decode cX7_tellPlay 38 = .ok (.getfield 300, 3) := by decide +kernel
theorem dX7_tellPlay_41 : decode cX7_tellPlay 41 = .ok (.aload_n 0, 1) := by decide +kernel
theorem dX7_tellPlay_42 : decode cX7_tellPlay 42 = .ok (.getfield 35, 3) := by decide +kernel
theorem dX7_tellPlay_45 : decode cX7_tellPlay 45 = .ok (.getfield 172, 3) := by decide +kernel
theorem dX7_tellPlay_48 : decode cX7_tellPlay 48 = .ok (.iconst 1, 1) := by decide +kernel
theorem dX7_tellPlay_49 : decode cX7_tellPlay 49 = .ok (.isub, 1) := by decide +kernel
theorem dX7_tellPlay_50 : decode cX7_tellPlay 50 = .ok (.aaload, 1) := by decide +kernel
theorem dX7_tellPlay_51 : decode cX7_tellPlay 51 = .ok (.getfield 307, 3) := by decide +kernel
theorem dX7_tellPlay_54 : decode cX7_tellPlay 54 = .ok (.istore_n 2, 1) := by decide +kernel
theorem dX7_tellPlay_55 : decode cX7_tellPlay 55 = .ok (.aload_n 0, 1) := by decide +kernel
theorem dX7_tellPlay_56 : decode cX7_tellPlay 56 = .ok (.getstatic 310, 3) := by decide +kernel
theorem dX7_tellPlay_59 : decode cX7_tellPlay 59 = .ok (.aload_n 0, 1) := by decide +kernel
theorem dX7_tellPlay_60 : decode cX7_tellPlay 60 = .ok (.getfield 35, 3) := by decide +kernel
theorem dX7_tellPlay_63 : decode cX7_tellPlay 63 = .ok (.getfield 172, 3) := by decide +kernel
theorem dX7_tellPlay_66 : decode cX7_tellPlay 66 = .ok (.invokevirtual 188, 3) := by decide +kernel
theorem dX7_tellPlay_69 : decode cX7_tellPlay 69 = .ok (.ifCond .eq 14, 3) := by decide +kernel
theorem dX7_tellPlay_72 : decode cX7_tellPlay 72 = .ok (.aload_n 0, 1) := by decide +kernel
theorem dX7_tellPlay_73 : decode cX7_tellPlay 73 = .ok (.iload_n 2, 1) := by decide +kernel
theorem dX7_tellPlay_74 : decode cX7_tellPlay 74 = .ok (.sipush 999, 3) := by decide +kernel
theorem dX7_tellPlay_77 : decode cX7_tellPlay 77 = .ok (.invokevirtual 179, 3) := by decide +kernel
theorem dX7_tellPlay_80 : decode cX7_tellPlay 80 = .ok (.ifCond .ne 5, 3) := by decide +kernel
theorem dX7_tellPlay_83 : decode cX7_tellPlay 83 = .ok (.iconst 0, 1) := by decide +kernel
theorem dX7_tellPlay_84 : decode cX7_tellPlay 84 = .ok (.ireturn, 1) := by decide +kernel
theorem dX7_tellPlay_85 : decode cX7_tellPlay 85 = .ok (.aload_n 1, 1) := by decide +kernel
theorem dX7_tellPlay_86 : decode cX7_tellPlay 86 = .ok (.aload_n 0, 1) := by decide +kernel
theorem dX7_tellPlay_87 : decode cX7_tellPlay 87 = .ok (.getfield 107, 3) := by decide +kernel
theorem dX7_tellPlay_90 : decode cX7_tellPlay 90 = .ok (.putfield 307, 3) := by decide +kernel
theorem dX7_tellPlay_93 : decode cX7_tellPlay 93 = .ok (.aload_n 1, 1) := by decide +kernel
theorem dX7_tellPlay_94 : decode cX7_tellPlay 94 = .ok (.aload_n 0, 1) := by decide +kernel
theorem dX7_tellPlay_95 : decode cX7_tellPlay 95 = .ok (.getstatic 224, 3) := by decide +kernel
theorem dX7_tellPlay_98 : decode cX7_tellPlay 98 = .ok (.iconst (-1), 1) := by decide +kernel
theorem dX7_tellPlay_99 : decode cX7_tellPlay 99 = .ok (.invokevirtual 208, 3) := by decide +kernel
theorem dX7_tellPlay_102 : decode cX7_tellPlay 102 = .ok (.putfield 313, 3) := by decide +kernel
theorem dX7_tellPlay_105 : decode cX7_tellPlay 105 = .ok (.aload_n 1, 1) := by decide +kernel
theorem dX7_tellPlay_106 : decode cX7_tellPlay 106 = .ok (.getfield 313, 3) := by decide +kernel
theorem dX7_tellPlay_109 : decode cX7_tellPlay 109 = .ok (.iconst (-1), 1) := by decide +kernel
theorem dX7_tellPlay_110 : decode cX7_tellPlay 110 = .ok (.if_icmp .ne 5, 3) := by decide +kernel
theorem dX7_tellPlay_113 : decode cX7_tellPlay 113 = .ok (.iconst 0, 1) := by decide +kernel
theorem dX7_tellPlay_114 : decode cX7_tellPlay 114 = .ok (.ireturn, 1) := by decide +kernel
theorem dX7_tellPlay_115 : decode cX7_tellPlay 115 = .ok (.aload_n 1, 1) := by decide +kernel
theorem dX7_tellPlay_116 : decode cX7_tellPlay 116 = .ok (.aload_n 0, 1) := by decide +kernel
theorem dX7_tellPlay_117 : decode cX7_tellPlay 117 = .ok (.getstatic 214, 3) := by decide +kernel
theorem dX7_tellPlay_120 : decode cX7_tellPlay 120 = .ok (.iconst (-1), 1) := by decide +kernel
theorem dX7_tellPlay_121 : decode cX7_tellPlay 121 = .ok (.invokevirtual 208, 3) := by decide +kernel
theorem dX7_tellPlay_124 : decode cX7_tellPlay 124 = .ok (.putfield 315, 3) := by decide +kernel
theorem dX7_tellPlay_127 : decode cX7_tellPlay 127 = .ok (.aload_n 1, 1) := by decide +kernel
theorem dX7_tellPlay_128 : decode cX7_tellPlay 128 = .ok (.getfield 315, 3) := by decide +kernel
theorem dX7_tellPlay_131 : decode cX7_tellPlay 131 = .ok (.iconst (-1), 1) := by decide +kernel
theorem dX7_tellPlay_132 : decode cX7_tellPlay 132 = .ok (.if_icmp .eq 13, 3) := by decide +kernel
theorem dX7_tellPlay_135 : decode cX7_tellPlay 135 = .ok (.aload_n 0, 1) := by decide +kernel
theorem dX7_tellPlay_136 : decode cX7_tellPlay 136 = .ok (.iconst 0, 1) := by decide +kernel
theorem dX7_tellPlay_137 : decode cX7_tellPlay 137 = .ok (.bipush 99, 2) := by decide +kernel
theorem dX7_tellPlay_139 : decode cX7_tellPlay 139 = .ok (.invokevirtual 179, 3) := by decide +kernel
theorem dX7_tellPlay_142 : decode cX7_tellPlay 142 = .ok (.ifCond .ne 5, 3) := by decide +kernel
theorem dX7_tellPlay_145 : decode cX7_tellPlay 145 = .ok (.iconst 0, 1) := by decide +kernel
theorem dX7_tellPlay_146 : decode cX7_tellPlay 146 = .ok (.ireturn, 1) := by decide +kernel
theorem dX7_tellPlay_147 : decode cX7_tellPlay 147 = .ok (.aload_n 1, 1) := by decide +kernel
theorem dX7_tellPlay_148 : decode cX7_tellPlay 148 = .ok (.aload_n 0, 1) := by decide +kernel
theorem dX7_tellPlay_149 : decode cX7_tellPlay 149 = .ok (.getfield 107, 3) := by decide +kernel
theorem dX7_tellPlay_152 : decode cX7_tellPlay 152 = .ok (.putfield 318, 3) := by decide +kernel
theorem dX7_tellPlay_155 : decode cX7_tellPlay 155 = .ok (.aload_n 1, 1) := by decide +kernel
theorem dX7_tellPlay_156 : decode cX7_tellPlay 156 = .ok (.aload_n 0, 1) := by decide +kernel
theorem dX7_tellPlay_157 : decode cX7_tellPlay 157 = .ok (.getfield 15, 3) := by decide +kernel
theorem dX7_tellPlay_160 : decode cX7_tellPlay 160 = .ok (.getstatic 321, 3) := by decide +kernel
theorem dX7_tellPlay_163 : decode cX7_tellPlay 163 = .ok (.if_acmp .ne 7, 3) := by decide +kernel
theorem dX7_tellPlay_166 : decode cX7_tellPlay 166 = .ok (.iconst 1, 1) := by decide +kernel
theorem dX7_tellPlay_167 : decode cX7_tellPlay 167 = .ok (.goto 4, 3) := by decide +kernel
theorem dX7_tellPlay_170 : decode cX7_tellPlay 170 = .ok (.iconst 0, 1) := by decide +kernel
theorem dX7_tellPlay_171 : decode cX7_tellPlay 171 = .ok (.putfield 324, 3) := by decide +kernel
theorem dX7_tellPlay_174 : decode cX7_tellPlay 174 = .ok (.aload_n 0, 1) := by decide +kernel
theorem dX7_tellPlay_175 : decode cX7_tellPlay 175 = .ok (.aload_n 1, 1) := by decide +kernel
theorem dX7_tellPlay_176 : decode cX7_tellPlay 176 = .ok (.getfield 324, 3) := by decide +kernel
theorem dX7_tellPlay_179 : decode cX7_tellPlay 179 = .ok (.iconst 1, 1) := by decide +kernel
theorem dX7_tellPlay_180 : decode cX7_tellPlay 180 = .ok (.if_icmp .ne 9, 3) := by decide +kernel
theorem dX7_tellPlay_183 : decode cX7_tellPlay 183 = .ok (.getstatic 321, 3) := by decide +kernel
theorem dX7_tellPlay_186 : decode cX7_tellPlay 186 = .ok (.goto 6, 3) := by decide +kernel
theorem dX7_tellPlay_189 : decode cX7_tellPlay 189 = .ok (.getstatic 327, 3) := by decide +kernel
theorem dX7_tellPlay_192 : decode cX7_tellPlay 192 = .ok (.invokevirtual 264, 3) := by decide +kernel
theorem dX7_tellPlay_195 : decode cX7_tellPlay 195 = .ok (.ifCond .ne 5, 3) := by decide +kernel
theorem dX7_tellPlay_198 : decode cX7_tellPlay 198 = .ok (.iconst 0, 1) := by decide +kernel
theorem dX7_tellPlay_199 : decode cX7_tellPlay 199 = .ok (.ireturn, 1) := by decide +kernel
theorem dX7_tellPlay_200 : decode cX7_tellPlay 200 = .ok (.iconst 0, 1) := by decide +kernel
theorem dX7_tellPlay_201 : decode cX7_tellPlay 201 = .ok (.istore_n 3, 1) := by decide +kernel
theorem dX7_tellPlay_202 : decode cX7_tellPlay 202 = .ok (.iload_n 3, 1) := by decide +kernel
theorem dX7_tellPlay_203 : decode cX7_tellPlay 203 = .ok (.bipush 10, 2) := by decide +kernel
theorem dX7_tellPlay_205 : decode cX7_tellPlay 205 = .ok (.if_icmp .gt 29, 3) := by decide +kernel
theorem dX7_tellPlay_208 : decode cX7_tellPlay 208 = .ok (.aload_n 0, 1) := by decide +kernel
theorem dX7_tellPlay_209 : decode cX7_tellPlay 209 = .ok (.getfield 15, 3) := by decide +kernel
theorem dX7_tellPlay_212 : decode cX7_tellPlay 212 = .ok (.getstatic 330, 3) := by decide +kernel
theorem dX7_tellPlay_215 : decode cX7_tellPlay 215 = .ok (.if_acmp .eq 19, 3) := by decide +kernel
theorem dX7_tellPlay_218 : decode cX7_tellPlay 218 = .ok (.aload_n 0, 1) := by decide +kernel
theorem dX7_tellPlay_219 : decode cX7_tellPlay 219 = .ok (.aload_n 1, 1) := by decide +kernel
theorem dX7_tellPlay_220 : decode cX7_tellPlay 220 = .ok (.invokevirtual 333, 3) := by decide +kernel
theorem dX7_tellPlay_223 : decode cX7_tellPlay 223 = .ok (.ifCond .ne 5, 3) := by decide +kernel
theorem dX7_tellPlay_226 : decode cX7_tellPlay 226 = .ok (.iconst 0, 1) := by decide +kernel
theorem dX7_tellPlay_227 : decode cX7_tellPlay 227 = .ok (.ireturn, 1) := by decide +kernel
theorem dX7_tellPlay_228 : decode cX7_tellPlay 228 = .ok (.iinc 3 1, 3) := by decide +kernel
theorem dX7_tellPlay_231 : decode cX7_tellPlay 231 = .ok (.goto (-29), 3) := by decide +kernel
theorem dX7_tellPlay_234 : decode cX7_tellPlay 234 = .ok (.aload_n 0, 1) := by decide +kernel
theorem dX7_tellPlay_235 : decode cX7_tellPlay 235 = .ok (.getfield 35, 3) := by decide +kernel
theorem dX7_tellPlay_238 : decode cX7_tellPlay 238 = .ok (.dup, 1) := by decide +kernel
theorem dX7_tellPlay_239 : decode cX7_tellPlay 239 = .ok (.getfield 172, 3) := by decide +kernel
theorem dX7_tellPlay_242 : decode cX7_tellPlay 242 = .ok (.iconst 1, 1) := by decide +kernel
theorem dX7_tellPlay_243 : decode cX7_tellPlay 243 = .ok (.iadd, 1) := by decide +kernel
theorem dX7_tellPlay_244 : decode cX7_tellPlay 244 = .ok (.putfield 172, 3) := by decide +kernel
theorem dX7_tellPlay_247 : decode cX7_tellPlay 247 = .ok (.iconst 1, 1) := by decide +kernel
theorem dX7_tellPlay_248 : decode cX7_tellPlay 248 = .ok (.ireturn, 1) := by decide +kernel
theorem dX7_tellFrame_0 : decode cX7_tellFrame 0 = .ok (.aload_n 0, 1) := by decide +kernel
theorem dX7_tellFrame_1 : decode cX7_tellFrame 1 = .ok (.getstatic 185, 3) := by decide +kernel
theorem dX7_tellFrame_4 : decode cX7_tellFrame 4 = .ok (.iconst (-1), 1) := by decide +kernel
theorem dX7_tellFrame_5 : decode cX7_tellFrame 5 = .ok (.invokevirtual 113, 3) := by decide +kernel
theorem dX7_tellFrame_8 : decode cX7_tellFrame 8 = .ok (.istore_n 2, 1) := by decide +kernel
theorem dX7_tellFrame_9 : decode cX7_tellFrame 9 = .ok (.iload_n 2, 1) := by decide +kernel
theorem dX7_tellFrame_10 : decode cX7_tellFrame 10 = .ok (.iconst (-1), 1) := by decide +kernel
theorem dX7_tellFrame_11 : decode cX7_tellFrame 11 = .ok (.if_icmp .ne 5, 3) := by decide +kernel
theorem dX7_tellFrame_14 : decode cX7_tellFrame 14 = .ok (.iconst 0, 1) := by decide +kernel
theorem dX7_tellFrame_15 : decode cX7_tellFrame 15 = .ok (.ireturn, 1) := by decide +kernel
theorem dX7_tellFrame_16 : decode cX7_tellFrame 16 = .ok (.aload_n 1, 1) := by decide +kernel
theorem dX7_tellFrame_17 : decode cX7_tellFrame 17 = .ok (.getfield 337, 3) := by decide +kernel
theorem dX7_tellFrame_20 : decode cX7_tellFrame 20 = .ok (.bipush 10, 2) := by decide +kernel
theorem dX7_tellFrame_22 : decode cX7_tellFrame 22 = .ok (.if_icmp .ne 9, 3) := by decide +kernel
theorem dX7_tellFrame_25 : decode cX7_tellFrame 25 = .ok (.aload_n 0, 1) := by decide +kernel
theorem dX7_tellFrame_26 : decode cX7_tellFrame 26 = .ok (.iconst 5, 1) := by decide +kernel
theorem dX7_tellFrame_27 : decode cX7_tellFrame 27 = .ok (.invokevirtual 104, 3) := by decide +kernel
theorem dX7_tellFrame_30 : decode cX7_tellFrame 30 = .ok (.ireturn, 1) := by decide +kernel
theorem dX7_tellFrame_31 : decode cX7_tellFrame 31 = .ok (.aload_n 0, 1) := by decide +kernel
theorem dX7_tellFrame_32 : decode cX7_tellFrame 32 = .ok (.invokevirtual 63, 3) := by decide +kernel
theorem dX7_tellFrame_35 : decode cX7_tellFrame 35 = .ok (.aload_n 0, 1) := by decide +kernel
theorem dX7_tellFrame_36 : decode cX7_tellFrame 36 = .ok (.iconst 0, 1) := by decide +kernel
theorem dX7_tellFrame_37 : decode cX7_tellFrame 37 = .ok (.sipush 999, 3) := by decide +kernel
theorem dX7_tellFrame_40 : decode cX7_tellFrame 40 = .ok (.invokevirtual 179, 3) := by decide +kernel
theorem dX7_tellFrame_43 : decode cX7_tellFrame 43 = .ok (.ifCond .ne 5, 3) := by decide +kernel
theorem dX7_tellFrame_46 : decode cX7_tellFrame 46 = .ok (.iconst 0, 1) := by decide +kernel
theorem dX7_tellFrame_47 : decode cX7_tellFrame 47 = .ok (.ireturn, 1) := by decide +kernel
theorem dX7_tellFrame_48 : decode cX7_tellFrame 48 = .ok (.aload_n 1, 1) := by decide +kernel
theorem dX7_tellFrame_49 : decode cX7_tellFrame 49 = .ok (.getfield 337, 3) := by decide +kernel
theorem dX7_tellFrame_52 : decode cX7_tellFrame 52 = .ok (.istore_n 3, 1) := by decide +kernel
theorem dX7_tellFrame_53 : decode cX7_tellFrame 53 = .ok (.aload_n 1, 1) := by decide +kernel
theorem dX7_tellFrame_54 : decode cX7_tellFrame 54 = .ok (.getfield 340, 3) := by decide +kernel
theorem dX7_tellFrame_57 : decode cX7_tellFrame 57 = .ok (.iload_n 3, 1) := by decide +kernel
theorem dX7_tellFrame_58 : decode cX7_tellFrame 58 = .ok (.iload_n 2, 1) := by decide +kernel
theorem dX7_tellFrame_59 : decode cX7_tellFrame 59 = .ok (.iastore, 1) := by decide +kernel
theorem dX7_tellFrame_60 : decode cX7_tellFrame 60 = .ok (.aload_n 1, 1) := by decide +kernel
theorem dX7_tellFrame_61 : decode cX7_tellFrame 61 = .ok (.getfield 343, 3) := by decide +kernel
theorem dX7_tellFrame_64 : decode cX7_tellFrame 64 = .ok (.iload_n 3, 1) := by decide +kernel
theorem dX7_tellFrame_65 : decode cX7_tellFrame 65 = .ok (.aload_n 0, 1) := by decide +kernel
theorem dX7_tellFrame_66 : decode cX7_tellFrame 66 = .ok (.getfield 107, 3) := by decide +kernel
theorem dX7_tellFrame_69 : decode cX7_tellFrame 69 = .ok (.iastore, 1) := by decide +kernel
theorem dX7_tellFrame_70 : decode cX7_tellFrame 70 = .ok (.aload_n 1, 1) := by decide +kernel
theorem dX7_tellFrame_71 : decode cX7_tellFrame 71 = .ok (.getfield 346, 3) := by decide +kernel
theorem dX7_tellFrame_74 : decode cX7_tellFrame 74 = .ok (.iload_n 3, 1) := by decide +kernel
theorem dX7_tellFrame_75 : decode cX7_tellFrame 75 = .ok (.iconst 0, 1) := by decide +kernel
theorem dX7_tellFrame_76 : decode cX7_tellFrame 76 = .ok (.iastore, 1) := by decide +kernel
theorem dX7_tellFrame_77 : decode cX7_tellFrame 77 = .ok (.aload_n 1, 1) := by decide +kernel
theorem dX7_tellFrame_78 : decode cX7_tellFrame 78 = .ok (.getfield 349, 3) := by decide +kernel
theorem dX7_tellFrame_81 : decode cX7_tellFrame 81 = .ok (.iload_n 3, 1) := by decide +kernel
theorem dX7_tellFrame_82 : decode cX7_tellFrame 82 = .ok (.iconst 0, 1) := by decide +kernel
theorem dX7_tellFrame_83 : decode cX7_tellFrame 83 = .ok (.iastore, 1) := by decide +kernel
theorem dX7_tellFrame_84 : decode cX7_tellFrame 84 = .ok (.aload_n 1, 1) := by decide +kernel
theorem dX7_tellFrame_85 : decode cX7_tellFrame 85 = .ok (.dup, 1) := by decide +kernel
theorem dX7_tellFrame_86 : decode cX7_tellFrame 86 = .ok (.getfield 337, 3) := by decide +kernel
theorem dX7_tellFrame_89 : decode cX7_tellFrame 89 = .ok (.iconst 1, 1) := by decide +kernel
theorem dX7_tellFrame_90 : decode cX7_tellFrame 90 = .ok (.iadd, 1) := by decide +kernel
theorem dX7_tellFrame_91 : decode cX7_tellFrame 91 = .ok (.putfield 337, 3) := by decide +kernel
theorem dX7_tellFrame_94 : decode cX7_tellFrame 94 = .ok (.iconst 0, 1) := by decide +kernel
theorem dX7_tellFrame_95 : decode cX7_tellFrame 95 = .ok (.istore 4, 2) := by decide +kernel
theorem dX7_tellFrame_97 : decode cX7_tellFrame 97 = .ok (.iload 4, 2) := by decide +kernel
theorem dX7_tellFrame_99 : decode cX7_tellFrame 99 = .ok (.iconst 4, 1) := by decide +kernel
theorem dX7_tellFrame_100 : decode cX7_tellFrame 100 = .ok (.if_icmp .gt 120, 3) := by decide +kernel
theorem dX7_tellFrame_103 : decode cX7_tellFrame 103 = .ok (.aload_n 0, 1) := by decide +kernel
theorem dX7_tellFrame_104 : decode cX7_tellFrame 104 = .ok (.getfield 15, 3) := by decide +kernel
theorem dX7_tellFrame_107 : decode cX7_tellFrame 107 = .ok (.getstatic 352, 3) := by decide +kernel
theorem dX7_tellFrame_110 : decode cX7_tellFrame 110 = .ok (.if_acmp .eq 13, 3) := by decide +kernel
theorem dX7_tellFrame_113 : decode cX7_tellFrame 113 = .ok (.aload_n 0, 1) := by decide +kernel
theorem dX7_tellFrame_114 : decode cX7_tellFrame 114 = .ok (.getfield 15, 3) := by decide +kernel
theorem dX7_tellFrame_117 : decode cX7_tellFrame 117 = .ok (.getstatic 355, 3) := by decide +kernel
theorem dX7_tellFrame_120 : decode cX7_tellFrame 120 = .ok (.if_acmp .ne 100, 3) := by decide +kernel
theorem dX7_tellFrame_123 : decode cX7_tellFrame 123 = .ok (.aload_n 0, 1) := by decide +kernel
theorem dX7_tellFrame_124 : decode cX7_tellFrame 124 = .ok (.getfield 15, 3) := by decide +kernel
theorem dX7_tellFrame_127 : decode cX7_tellFrame 127 = .ok (.getstatic 352, 3) := by decide +kernel
theorem dX7_tellFrame_130 : decode cX7_tellFrame 130 = .ok (.if_acmp .ne 7, 3) := by decide +kernel
theorem dX7_tellFrame_133 : decode cX7_tellFrame 133 = .ok (.iconst 1, 1) := by decide +kernel
theorem dX7_tellFrame_134 : decode cX7_tellFrame 134 = .ok (.goto 4, 3) := by decide +kernel
theorem dX7_tellFrame_137 : decode cX7_tellFrame 137 = .ok (.iconst 0, 1) := by decide +kernel
theorem dX7_tellFrame_138 : decode cX7_tellFrame 138 = .ok (.istore 5, 2) := by decide +kernel
theorem dX7_tellFrame_140 : decode cX7_tellFrame 140 = .ok (.aload_n 0, 1) := by decide +kernel
theorem dX7_tellFrame_141 : decode cX7_tellFrame 141 = .ok (.invokevirtual 63, 3) := by decide +kernel
theorem dX7_tellFrame_144 : decode cX7_tellFrame 144 = .ok (.aload_n 0, 1) := by decide +kernel
theorem dX7_tellFrame_145 : decode cX7_tellFrame 145 = .ok (.aload_n 1, 1) := by decide +kernel
theorem dX7_tellFrame_146 : decode cX7_tellFrame 146 = .ok (.getfield 346, 3) := by decide +kernel
theorem dX7_tellFrame_149 : decode cX7_tellFrame 149 = .ok (.iload_n 3, 1) := by decide +kernel
theorem dX7_tellFrame_150 : decode cX7_tellFrame 150 = .ok (.iaload, 1) := by decide +kernel
theorem dX7_tellFrame_151 : decode cX7_tellFrame 151 = .ok (.aload_n 1, 1) := by decide +kernel
theorem dX7_tellFrame_152 : decode cX7_tellFrame 152 = .ok (.getfield 349, 3) := by decide +kernel
theorem dX7_tellFrame_155 : decode cX7_tellFrame 155 = .ok (.iload_n 3, 1) := by decide +kernel
theorem dX7_tellFrame_156 : decode cX7_tellFrame 156 = .ok (.iaload, 1) := by decide +kernel
theorem dX7_tellFrame_157 : decode cX7_tellFrame 157 = .ok (.ior, 1) := by decide +kernel
theorem dX7_tellFrame_158 : decode cX7_tellFrame 158 = .ok (.invokevirtual 258, 3) := by decide +kernel
theorem dX7_tellFrame_161 : decode cX7_tellFrame 161 = .ok (.ifCond .ne 5, 3) := by decide +kernel
theorem dX7_tellFrame_164 : decode cX7_tellFrame 164 = .ok (.iconst 0, 1) := by decide +kernel
theorem dX7_tellFrame_165 : decode cX7_tellFrame 165 = .ok (.ireturn, 1) := by decide +kernel
theorem dX7_tellFrame_166 : decode cX7_tellFrame 166 = .ok (.aload_n 1, 1) := by decide +kernel
theorem dX7_tellFrame_167 : decode cX7_tellFrame 167 = .ok (.getfield 346, 3) := by decide +kernel
theorem dX7_tellFrame_170 : decode cX7_tellFrame 170 = .ok (.iload_n 3, 1) := by decide +kernel
theorem dX7_tellFrame_171 : decode cX7_tellFrame 171 = .ok (.dup2, 1) := by decide +kernel
theorem dX7_tellFrame_172 : decode cX7_tellFrame 172 = .ok (.iaload, 1) := by decide +kernel
theorem dX7_tellFrame_173 : decode cX7_tellFrame 173 = .ok (.iload 5, 2) := by decide +kernel
theorem dX7_tellFrame_175 : decode cX7_tellFrame 175 = .ok (.ifCond .eq 12, 3) := by decide +kernel
theorem dX7_tellFrame_178 : decode cX7_tellFrame 178 = .ok (.iconst 1, 1) := by decide +kernel
theorem dX7_tellFrame_179 : decode cX7_tellFrame 179 = .ok (.aload_n 0, 1) := by decide +kernel
theorem dX7_tellFrame_180 : decode cX7_tellFrame 180 = .ok (.getfield 107, 3) := by decide +kernel
theorem dX7_tellFrame_183 : decode cX7_tellFrame 183 = .ok (.ishl, 1) := by decide +kernel
theorem dX7_tellFrame_184 : decode cX7_tellFrame 184 = .ok (.goto 4, 3) := by decide +kernel
theorem dX7_tellFrame_187 : decode cX7_tellFrame 187 = .ok (.iconst 0, 1) := by decide +kernel
theorem dX7_tellFrame_188 : decode cX7_tellFrame 188 = .ok (.ior, 1) := by decide +kernel
theorem dX7_tellFrame_189 : decode cX7_tellFrame 189 = .ok (.iastore, 1) := by decide +kernel
theorem dX7_tellFrame_190 : decode cX7_tellFrame 190 = .ok (.aload_n 1, 1) := by decide +kernel
theorem dX7_tellFrame_191 : decode cX7_tellFrame 191 = .ok (.getfield 349, 3) := by decide +kernel
theorem dX7_tellFrame_194 : decode cX7_tellFrame 194 = .ok (.iload_n 3, 1) := by decide +kernel
theorem dX7_tellFrame_195 : decode cX7_tellFrame 195 = .ok (.dup2, 1) := by decide +kernel
theorem dX7_tellFrame_196 : decode cX7_tellFrame 196 = .ok (.iaload, 1) := by decide +kernel
theorem dX7_tellFrame_197 : decode cX7_tellFrame 197 = .ok (.iload 5, 2) := by decide +kernel
theorem dX7_tellFrame_199 : decode cX7_tellFrame 199 = .ok (.ifCond .eq 7, 3) := by decide +kernel
theorem dX7_tellFrame_202 : decode cX7_tellFrame 202 = .ok (.iconst 0, 1) := by decide +kernel
theorem dX7_tellFrame_203 : decode cX7_tellFrame 203 = .ok (.goto 9, 3) := by decide +kernel
theorem dX7_tellFrame_206 : decode cX7_tellFrame 206 = .ok (.iconst 1, 1) := by decide +kernel
theorem dX7_tellFrame_207 : decode cX7_tellFrame 207 = .ok (.aload_n 0, 1) := by decide +kernel
theorem dX7_tellFrame_208 : decode cX7_tellFrame 208 = .ok (.getfield 107, 3) := by decide +kernel
theorem dX7_tellFrame_211 : decode cX7_tellFrame 211 = .ok (.ishl, 1) := by decide +kernel
theorem dX7_tellFrame_212 : decode cX7_tellFrame 212 = .ok (.ior, 1) := by decide +kernel
theorem dX7_tellFrame_213 : decode cX7_tellFrame 213 = .ok (.iastore, 1) := by decide +kernel
theorem dX7_tellFrame_214 : decode cX7_tellFrame 214 = .ok (.iinc 4 1, 3) := by decide +kernel
theorem dX7_tellFrame_217 : decode cX7_tellFrame 217 = .ok (.goto (-120), 3) := by decide +kernel
theorem dX7_tellFrame_220 : decode cX7_tellFrame 220 = .ok (.iconst 1, 1) := by decide +kernel
theorem dX7_tellFrame_221 : decode cX7_tellFrame 221 = .ok (.ireturn, 1) := by decide +kernel
theorem dX8_withLetter_0 : decode cX8_withLetter 0 = .ok (.iload_n 0, 1) := by decide +kernel
theorem dX8_withLetter_1 : decode cX8_withLetter 1 = .ok (.bipush 32, 2) := by decide +kernel
theorem dX8_withLetter_3 : decode cX8_withLetter 3 = .ok (.imul, 1) := by decide +kernel
theorem dX8_withLetter_4 : decode cX8_withLetter 4 = .ok (.iload_n 1, 1) := by decide +kernel
theorem dX8_withLetter_5 : decode cX8_withLetter 5 = .ok (.iadd, 1) := by decide +kernel
theorem dX8_withLetter_6 : decode cX8_withLetter 6 = .ok (.bipush 97, 2) := by decide +kernel
theorem dX8_withLetter_8 : decode cX8_withLetter 8 = .ok (.isub, 1) := by decide +kernel
theorem dX8_withLetter_9 : decode cX8_withLetter 9 = .ok (.iconst 1, 1) := by decide +kernel
theorem dX8_withLetter_10 : decode cX8_withLetter 10 = .ok (.iadd, 1) := by decide +kernel
theorem dX8_withLetter_11 : decode cX8_withLetter 11 = .ok (.ireturn, 1) := by decide +kernel
theorem dX8_ofWord_0 : decode cX8_ofWord 0 = .ok (.iconst 0, 1) := by decide +kernel
theorem dX8_ofWord_1 : decode cX8_ofWord 1 = .ok (.istore_n 1, 1) := by decide +kernel
theorem dX8_ofWord_2 : decode cX8_ofWord 2 = .ok (.iload_n 1, 1) := by decide +kernel
theorem dX8_ofWord_3 : decode cX8_ofWord 3 = .ok (.getstatic 116, 3) := by decide +kernel
theorem dX8_ofWord_6 : decode cX8_ofWord 6 = .ok (.arraylength, 1) := by decide +kernel
theorem dX8_ofWord_7 : decode cX8_ofWord 7 = .ok (.if_icmp .ge 27, 3) := by decide +kernel
theorem dX8_ofWord_10 : decode cX8_ofWord 10 = .ok (.getstatic 116, 3) := by decide +kernel
theorem dX8_ofWord_13 : decode cX8_ofWord 13 = .ok (.iload_n 1, 1) := by decide +kernel
theorem dX8_ofWord_14 : decode cX8_ofWord 14 = .ok (.aaload, 1) := by decide +kernel
theorem dX8_ofWord_15 : decode cX8_ofWord 15 = .ok (.getfield 112, 3) := by decide +kernel
theorem dX8_ofWord_18 : decode cX8_ofWord 18 = .ok (.iload_n 0, 1) := by decide +kernel
theorem dX8_ofWord_19 : decode cX8_ofWord 19 = .ok (.if_icmp .ne 9, 3) := by decide +kernel
theorem dX8_ofWord_22 : decode cX8_ofWord 22 = .ok (.getstatic 116, 3) := by decide +kernel
theorem dX8_ofWord_25 : decode cX8_ofWord 25 = .ok (.iload_n 1, 1) := by decide +kernel
theorem dX8_ofWord_26 : decode cX8_ofWord 26 = .ok (.aaload, 1) := by decide +kernel
theorem dX8_ofWord_27 : decode cX8_ofWord 27 = .ok (.areturn, 1) := by decide +kernel
theorem dX8_ofWord_28 : decode cX8_ofWord 28 = .ok (.iinc 1 1, 3) := by decide +kernel
theorem dX8_ofWord_31 : decode cX8_ofWord 31 = .ok (.goto (-29), 3) := by decide +kernel
theorem dX8_ofWord_34 : decode cX8_ofWord 34 = .ok (.getstatic 10, 3) := by decide +kernel
theorem dX8_ofWord_37 : decode cX8_ofWord 37 = .ok (.areturn, 1) := by decide +kernel
theorem dX8_ofSign_0 : decode cX8_ofSign 0 = .ok (.iload_n 0, 1) := by decide +kernel
theorem dX8_ofSign_1 : decode cX8_ofSign 1 = .ok (.lookupswitch 71 #[(33, 63), (40, 55), (41, 59), (59, 51), (63, 67)], 51) := by decide +kernel
theorem dX8_ofSign_52 : decode cX8_ofSign 52 = .ok (.getstatic 16, 3) := by decide +kernel
theorem dX8_ofSign_55 : decode cX8_ofSign 55 = .ok (.areturn, 1) := by decide +kernel
theorem dX8_ofSign_56 : decode cX8_ofSign 56 = .ok (.getstatic 19, 3) := by decide +kernel
theorem dX8_ofSign_59 : decode cX8_ofSign 59 = .ok (.areturn, 1) := by decide +kernel
theorem dX8_ofSign_60 : decode cX8_ofSign 60 = .ok (.getstatic 22, 3) := by decide +kernel
theorem dX8_ofSign_63 : decode cX8_ofSign 63 = .ok (.areturn, 1) := by decide +kernel
theorem dX8_ofSign_64 : decode cX8_ofSign 64 = .ok (.getstatic 25, 3) := by decide +kernel
theorem dX8_ofSign_67 : decode cX8_ofSign 67 = .ok (.areturn, 1) := by decide +kernel
theorem dX8_ofSign_68 : decode cX8_ofSign 68 = .ok (.getstatic 28, 3) := by decide +kernel
theorem dX8_ofSign_71 : decode cX8_ofSign 71 = .ok (.areturn, 1) := by decide +kernel
theorem dX8_ofSign_72 : decode cX8_ofSign 72 = .ok (.getstatic 7, 3) := by decide +kernel
theorem dX8_ofSign_75 : decode cX8_ofSign 75 = .ok (.areturn, 1) := by decide +kernel
theorem dX9_init_0 : decode cX9_init 0 = .ok (.aload_n 0, 1) := by decide +kernel
theorem dX9_init_1 : decode cX9_init 1 = .ok (.invokespecial 3, 3) := by decide +kernel
theorem dX9_init_4 : decode cX9_init 4 = .ok (.aload_n 0, 1) := by decide +kernel
theorem dX9_init_5 : decode cX9_init 5 = .ok (.iconst 5, 1) := by decide +kernel
theorem dX9_init_6 : decode cX9_init 6 = .ok (.newarray .int, 2) := by decide +kernel
theorem dX9_init_8 : decode cX9_init 8 = .ok (.putfield 9, 3) := by decide +kernel
theorem dX9_init_11 : decode cX9_init 11 = .ok (.aload_n 0, 1) := by decide +kernel
theorem dX9_init_12 : decode cX9_init 12 = .ok (.iconst 5, 1) := by decide +kernel
theorem dX9_init_13 : decode cX9_init 13 = .ok (.newarray .int, 2) := by decide +kernel
theorem dX9_init_15 : decode cX9_init 15 = .ok (.putfield 15, 3) := by decide +kernel
theorem dX9_init_18 : decode cX9_init 18 = .ok (.aload_n 0, 1) := by decide +kernel
theorem dX9_init_19 : decode cX9_init 19 = .ok (.new 18, 3) := by decide +kernel
theorem dX9_init_22 : decode cX9_init 22 = .ok (.dup, 1) := by decide +kernel
theorem dX9_init_23 : decode cX9_init 23 = .ok (.invokespecial 20, 3) := by decide +kernel
theorem dX9_init_26 : decode cX9_init 26 = .ok (.putfield 21, 3) := by decide +kernel
theorem dX9_init_29 : decode cX9_init 29 = .ok (.aload_n 0, 1) := by decide +kernel
theorem dX9_init_30 : decode cX9_init 30 = .ok (.iconst 4, 1) := by decide +kernel
theorem dX9_init_31 : decode cX9_init 31 = .ok (.newarray .int, 2) := by decide +kernel
theorem dX9_init_33 : decode cX9_init 33 = .ok (.putfield 25, 3) := by decide +kernel
theorem dX9_init_36 : decode cX9_init 36 = .ok (.aload_n 0, 1) := by decide +kernel
theorem dX9_init_37 : decode cX9_init 37 = .ok (.iconst 5, 1) := by decide +kernel
theorem dX9_init_38 : decode cX9_init 38 = .ok (.anewarray 28, 3) := by decide +kernel
theorem dX9_init_41 : decode cX9_init 41 = .ok (.putfield 30, 3) := by decide +kernel
theorem dX9_init_44 : decode cX9_init 44 = .ok (.aload_n 0, 1) := by decide +kernel
theorem dX9_init_45 : decode cX9_init 45 = .ok (.iconst 3, 1) := by decide +kernel
theorem dX9_init_46 : decode cX9_init 46 = .ok (.anewarray 34, 3) := by decide +kernel
theorem dX9_init_49 : decode cX9_init 49 = .ok (.putfield 36, 3) := by decide +kernel
theorem dX9_init_52 : decode cX9_init 52 = .ok (.aload_n 0, 1) := by decide +kernel
theorem dX9_init_53 : decode cX9_init 53 = .ok (.bipush 8, 2) := by decide +kernel
theorem dX9_init_55 : decode cX9_init 55 = .ok (.anewarray 40, 3) := by decide +kernel
theorem dX9_init_58 : decode cX9_init 58 = .ok (.putfield 42, 3) := by decide +kernel
theorem dX9_init_61 : decode cX9_init 61 = .ok (.aload_n 0, 1) := by decide +kernel
theorem dX9_init_62 : decode cX9_init 62 = .ok (.iconst 4, 1) := by decide +kernel
theorem dX9_init_63 : decode cX9_init 63 = .ok (.newarray .int, 2) := by decide +kernel
theorem dX9_init_65 : decode cX9_init 65 = .ok (.putfield 46, 3) := by decide +kernel
theorem dX9_init_68 : decode cX9_init 68 = .ok (.iconst 0, 1) := by decide +kernel
theorem dX9_init_69 : decode cX9_init 69 = .ok (.istore_n 1, 1) := by decide +kernel
theorem dX9_init_70 : decode cX9_init 70 = .ok (.iload_n 1, 1) := by decide +kernel
theorem dX9_init_71 : decode cX9_init 71 = .ok (.iconst 5, 1) := by decide +kernel
theorem dX9_init_72 : decode cX9_init 72 = .ok (.if_icmp .ge 22, 3) := by decide +kernel
theorem dX9_init_75 : decode cX9_init 75 = .ok (.aload_n 0, 1) := by decide +kernel
theorem dX9_init_76 : decode cX9_init 76 = .ok (.getfield 30, 3) := by decide +kernel
theorem dX9_init_79 : decode cX9_init 79 = .ok (.iload_n 1, 1) := by decide +kernel
theorem dX9_init_80 : decode cX9_init 80 = .ok (.new 28, 3) := by decide +kernel
theorem dX9_init_83 : decode cX9_init 83 = .ok (.dup, 1) := by decide +kernel
theorem dX9_init_84 : decode cX9_init 84 = .ok (.invokespecial 49, 3) := by decide +kernel
theorem dX9_init_87 : decode cX9_init 87 = .ok (.aastore, 1) := by decide +kernel
theorem dX9_init_88 : decode cX9_init 88 = .ok (.iinc 1 1, 3) := by decide +kernel
theorem dX9_init_91 : decode cX9_init 91 = .ok (.goto (-21), 3) := by decide +kernel
theorem dX9_init_94 : decode cX9_init 94 = .ok (.iconst 0, 1) := by decide +kernel
theorem dX9_init_95 : decode cX9_init 95 = .ok (.istore_n 1, 1) := by decide +kernel
theorem dX9_init_96 : decode cX9_init 96 = .ok (.iload_n 1, 1) := by decide +kernel
theorem dX9_init_97 : decode cX9_init 97 = .ok (.iconst 3, 1) := by decide +kernel
theorem dX9_init_98 : decode cX9_init 98 = .ok (.if_icmp .ge 22, 3) := by decide +kernel
theorem dX9_init_101 : decode cX9_init 101 = .ok (.aload_n 0, 1) := by decide +kernel
theorem dX9_init_102 : decode cX9_init 102 = .ok (.getfield 36, 3) := by decide +kernel
theorem dX9_init_105 : decode cX9_init 105 = .ok (.iload_n 1, 1) := by decide +kernel
theorem dX9_init_106 : decode cX9_init 106 = .ok (.new 34, 3) := by decide +kernel
theorem dX9_init_109 : decode cX9_init 109 = .ok (.dup, 1) := by decide +kernel
theorem dX9_init_110 : decode cX9_init 110 = .ok (.invokespecial 50, 3) := by decide +kernel
theorem dX9_init_113 : decode cX9_init 113 = .ok (.aastore, 1) := by decide +kernel
theorem dX9_init_114 : decode cX9_init 114 = .ok (.iinc 1 1, 3) := by decide +kernel
theorem dX9_init_117 : decode cX9_init 117 = .ok (.goto (-21), 3) := by decide +kernel
theorem dX9_init_120 : decode cX9_init 120 = .ok (.iconst 0, 1) := by decide +kernel
theorem dX9_init_121 : decode cX9_init 121 = .ok (.istore_n 1, 1) := by decide +kernel
theorem dX9_init_122 : decode cX9_init 122 = .ok (.iload_n 1, 1) := by decide +kernel
theorem dX9_init_123 : decode cX9_init 123 = .ok (.bipush 8, 2) := by decide +kernel
theorem dX9_init_125 : decode cX9_init 125 = .ok (.if_icmp .ge 22, 3) := by decide +kernel
theorem dX9_init_128 : decode cX9_init 128 = .ok (.aload_n 0, 1) := by decide +kernel
theorem dX9_init_129 : decode cX9_init 129 = .ok (.getfield 42, 3) := by decide +kernel
theorem dX9_init_132 : decode cX9_init 132 = .ok (.iload_n 1, 1) := by decide +kernel
theorem dX9_init_133 : decode cX9_init 133 = .ok (.new 40, 3) := by decide +kernel
theorem dX9_init_136 : decode cX9_init 136 = .ok (.dup, 1) := by decide +kernel
theorem dX9_init_137 : decode cX9_init 137 = .ok (.invokespecial 51, 3) := by decide +kernel
theorem dX9_init_140 : decode cX9_init 140 = .ok (.aastore, 1) := by decide +kernel
theorem dX9_init_141 : decode cX9_init 141 = .ok (.iinc 1 1, 3) := by decide +kernel
theorem dX9_init_144 : decode cX9_init 144 = .ok (.goto (-22), 3) := by decide +kernel
theorem dX9_init_147 : decode cX9_init 147 = .ok (.aload_n 0, 1) := by decide +kernel
theorem dX9_init_148 : decode cX9_init 148 = .ok (.invokevirtual 52, 3) := by decide +kernel
theorem dX9_init_151 : decode cX9_init 151 = .ok (.return_, 1) := by decide +kernel
theorem dX9_clear_0 : decode cX9_clear 0 = .ok (.aload_n 0, 1) := by decide +kernel
theorem dX9_clear_1 : decode cX9_clear 1 = .ok (.iconst 0, 1) := by decide +kernel
theorem dX9_clear_2 : decode cX9_clear 2 = .ok (.putfield 55, 3) := by decide +kernel
theorem dX9_clear_5 : decode cX9_clear 5 = .ok (.aload_n 0, 1) := by decide +kernel
theorem dX9_clear_6 : decode cX9_clear 6 = .ok (.iconst 0, 1) := by decide +kernel
theorem dX9_clear_7 : decode cX9_clear 7 = .ok (.putfield 59, 3) := by decide +kernel
theorem dX9_clear_10 : decode cX9_clear 10 = .ok (.aload_n 0, 1) := by decide +kernel
theorem dX9_clear_11 : decode cX9_clear 11 = .ok (.getfield 21, 3) := by decide +kernel
theorem dX9_clear_14 : decode cX9_clear 14 = .ok (.invokevirtual 62, 3) := by decide +kernel
theorem dX9_clear_17 : decode cX9_clear 17 = .ok (.aload_n 0, 1) := by decide +kernel
theorem dX9_clear_18 : decode cX9_clear 18 = .ok (.iconst 0, 1) := by decide +kernel
theorem dX9_clear_19 : decode cX9_clear 19 = .ok (.putfield 63, 3) := by decide +kernel
theorem dX9_clear_22 : decode cX9_clear 22 = .ok (.aload_n 0, 1) := by decide +kernel
theorem dX9_clear_23 : decode cX9_clear 23 = .ok (.iconst 0, 1) := by decide +kernel
theorem dX9_clear_24 : decode cX9_clear 24 = .ok (.putfield 66, 3) := by decide +kernel
theorem dX9_clear_27 : decode cX9_clear 27 = .ok (.aload_n 0, 1) := by decide +kernel
theorem dX9_clear_28 : decode cX9_clear 28 = .ok (.iconst 0, 1) := by decide +kernel
theorem dX9_clear_29 : decode cX9_clear 29 = .ok (.putfield 69, 3) := by decide +kernel
theorem dX9_clear_32 : decode cX9_clear 32 = .ok (.aload_n 0, 1) := by decide +kernel
theorem dX9_clear_33 : decode cX9_clear 33 = .ok (.iconst 0, 1) := by decide +kernel
theorem dX9_clear_34 : decode cX9_clear 34 = .ok (.putfield 72, 3) := by decide +kernel
theorem dX9_clear_37 : decode cX9_clear 37 = .ok (.aload_n 0, 1) := by decide +kernel
theorem dX9_clear_38 : decode cX9_clear 38 = .ok (.getfield 46, 3) := by decide +kernel
theorem dX9_clear_41 : decode cX9_clear 41 = .ok (.iconst 0, 1) := by decide +kernel
theorem dX9_clear_42 : decode cX9_clear 42 = .ok (.bipush 60, 2) := by decide +kernel
theorem dX9_clear_44 : decode cX9_clear 44 = .ok (.iastore, 1) := by decide +kernel
theorem dX9_clear_45 : decode cX9_clear 45 = .ok (.aload_n 0, 1) := by decide +kernel
theorem dX9_clear_46 : decode cX9_clear 46 = .ok (.getfield 46, 3) := by decide +kernel
theorem dX9_clear_49 : decode cX9_clear 49 = .ok (.iconst 1, 1) := by decide +kernel
theorem dX9_clear_50 : decode cX9_clear 50 = .ok (.iconst 0, 1) := by decide +kernel
theorem dX9_clear_51 : decode cX9_clear 51 = .ok (.iastore, 1) := by decide +kernel
theorem dX9_clear_52 : decode cX9_clear 52 = .ok (.aload_n 0, 1) := by decide +kernel
theorem dX9_clear_53 : decode cX9_clear 53 = .ok (.getfield 46, 3) := by decide +kernel
theorem dX9_clear_56 : decode cX9_clear 56 = .ok (.iconst 2, 1) := by decide +kernel
theorem dX9_clear_57 : decode cX9_clear 57 = .ok (.sipush 1000, 3) := by decide +kernel
theorem dX9_clear_60 : decode cX9_clear 60 = .ok (.iastore, 1) := by decide +kernel
theorem dX9_clear_61 : decode cX9_clear 61 = .ok (.aload_n 0, 1) := by decide +kernel
theorem dX9_clear_62 : decode cX9_clear 62 = .ok (.getfield 46, 3) := by decide +kernel
theorem dX9_clear_65 : decode cX9_clear 65 = .ok (.iconst 3, 1) := by decide +kernel
theorem dX9_clear_66 : decode cX9_clear 66 = .ok (.iconst 1, 1) := by decide +kernel
theorem dX9_clear_67 : decode cX9_clear 67 = .ok (.iastore, 1) := by decide +kernel
theorem dX9_clear_68 : decode cX9_clear 68 = .ok (.return_, 1) := by decide +kernel
theorem dX9_allCameras_0 : decode cX9_allCameras 0 = .ok (.iconst 1, 1) := by decide +kernel
theorem dX9_allCameras_1 : decode cX9_allCameras 1 = .ok (.aload_n 0, 1) := by decide +kernel
theorem dX9_allCameras_2 : decode cX9_allCameras 2 = .ok (.getfield 55, 3) := by decide +kernel
theorem dX9_allCameras_5 : decode cX9_allCameras 5 = .ok (.ishl, 1) := by decide +kernel
theorem dX9_allCameras_6 : decode cX9_allCameras 6 = .ok (.iconst 1, 1) := by decide +kernel
theorem dX9_allCameras_7 : decode cX9_allCameras 7 = .ok (.isub, 1) := by decide +kernel
theorem dX9_allCameras_8 : decode cX9_allCameras 8 = .ok (.ireturn, 1) := by decide +kernel
theorem dX10_init_0 : decode cX10_init 0 = .ok (.aload_n 0, 1) := by decide +kernel
theorem dX10_init_1 : decode cX10_init 1 = .ok (.invokespecial 1, 3) := by decide +kernel
theorem dX10_init_4 : decode cX10_init 4 = .ok (.aload_n 0, 1) := by decide +kernel
theorem dX10_init_5 : decode cX10_init 5 = .ok (.sipush 600, 3) := by decide +kernel
theorem dX10_init_8 : decode cX10_init 8 = .ok (.newarray .byte, 2) := by decide +kernel
theorem dX10_init_10 : decode cX10_init 10 = .ok (.putfield 9, 3) := by decide +kernel
theorem dX10_init_13 : decode cX10_init 13 = .ok (.aload_n 0, 1) := by decide +kernel
theorem dX10_init_14 : decode cX10_init 14 = .ok (.new 13, 3) := by decide +kernel
theorem dX10_init_17 : decode cX10_init 17 = .ok (.dup, 1) := by decide +kernel
theorem dX10_init_18 : decode cX10_init 18 = .ok (.invokespecial 15, 3) := by decide +kernel
theorem dX10_init_21 : decode cX10_init 21 = .ok (.putfield 16, 3) := by decide +kernel
theorem dX10_init_24 : decode cX10_init 24 = .ok (.aload_n 0, 1) := by decide +kernel
theorem dX10_init_25 : decode cX10_init 25 = .ok (.new 13, 3) := by decide +kernel
theorem dX10_init_28 : decode cX10_init 28 = .ok (.dup, 1) := by decide +kernel
theorem dX10_init_29 : decode cX10_init 29 = .ok (.invokespecial 15, 3) := by decide +kernel
theorem dX10_init_32 : decode cX10_init 32 = .ok (.putfield 20, 3) := by decide +kernel
theorem dX10_init_35 : decode cX10_init 35 = .ok (.aload_n 0, 1) := by decide +kernel
theorem dX10_init_36 : decode cX10_init 36 = .ok (.new 23, 3) := by decide +kernel
theorem dX10_init_39 : decode cX10_init 39 = .ok (.dup, 1) := by decide +kernel
theorem dX10_init_40 : decode cX10_init 40 = .ok (.aload_n 0, 1) := by decide +kernel
theorem dX10_init_41 : decode cX10_init 41 = .ok (.getfield 9, 3) := by decide +kernel
theorem dX10_init_44 : decode cX10_init 44 = .ok (.aload_n 0, 1) := by decide +kernel
theorem dX10_init_45 : decode cX10_init 45 = .ok (.getfield 20, 3) := by decide +kernel
theorem dX10_init_48 : decode cX10_init 48 = .ok (.invokespecial 25, 3) := by decide +kernel
theorem dX10_init_51 : decode cX10_init 51 = .ok (.putfield 28, 3) := by decide +kernel
theorem dX10_init_54 : decode cX10_init 54 = .ok (.aload_n 0, 1) := by decide +kernel
theorem dX10_init_55 : decode cX10_init 55 = .ok (.new 32, 3) := by decide +kernel
theorem dX10_init_58 : decode cX10_init 58 = .ok (.dup, 1) := by decide +kernel
theorem dX10_init_59 : decode cX10_init 59 = .ok (.invokespecial 34, 3) := by decide +kernel
theorem dX10_init_62 : decode cX10_init 62 = .ok (.putfield 35, 3) := by decide +kernel
theorem dX10_init_65 : decode cX10_init 65 = .ok (.aload_n 0, 1) := by decide +kernel
theorem dX10_init_66 : decode cX10_init 66 = .ok (.new 39, 3) := by decide +kernel
theorem dX10_init_69 : decode cX10_init 69 = .ok (.dup, 1) := by decide +kernel
theorem dX10_init_70 : decode cX10_init 70 = .ok (.invokespecial 41, 3) := by decide +kernel
theorem dX10_init_73 : decode cX10_init 73 = .ok (.putfield 42, 3) := by decide +kernel
theorem dX10_init_76 : decode cX10_init 76 = .ok (.aload_n 0, 1) := by decide +kernel
theorem dX10_init_77 : decode cX10_init 77 = .ok (.bipush 12, 2) := by decide +kernel
theorem dX10_init_79 : decode cX10_init 79 = .ok (.anewarray 39, 3) := by decide +kernel
theorem dX10_init_82 : decode cX10_init 82 = .ok (.putfield 46, 3) := by decide +kernel
theorem dX10_init_85 : decode cX10_init 85 = .ok (.aload_n 0, 1) := by decide +kernel
theorem dX10_init_86 : decode cX10_init 86 = .ok (.iconst 2, 1) := by decide +kernel
theorem dX10_init_87 : decode cX10_init 87 = .ok (.anewarray 39, 3) := by decide +kernel
theorem dX10_init_90 : decode cX10_init 90 = .ok (.putfield 50, 3) := by decide +kernel
theorem dX10_init_93 : decode cX10_init 93 = .ok (.aload_n 0, 1) := by decide +kernel
theorem dX10_init_94 : decode cX10_init 94 = .ok (.iconst 2, 1) := by decide +kernel
theorem dX10_init_95 : decode cX10_init 95 = .ok (.newarray .boolean, 2) := by decide +kernel
theorem dX10_init_97 : decode cX10_init 97 = .ok (.putfield 53, 3) := by decide +kernel
theorem dX10_init_100 : decode cX10_init 100 = .ok (.aload_n 0, 1) := by decide +kernel
theorem dX10_init_101 : decode cX10_init 101 = .ok (.bipush 16, 2) := by decide +kernel
theorem dX10_init_103 : decode cX10_init 103 = .ok (.newarray .int, 2) := by decide +kernel
theorem dX10_init_105 : decode cX10_init 105 = .ok (.putfield 57, 3) := by decide +kernel
theorem dX10_init_108 : decode cX10_init 108 = .ok (.iconst 0, 1) := by decide +kernel
theorem dX10_init_109 : decode cX10_init 109 = .ok (.istore_n 1, 1) := by decide +kernel
theorem dX10_init_110 : decode cX10_init 110 = .ok (.iload_n 1, 1) := by decide +kernel
theorem dX10_init_111 : decode cX10_init 111 = .ok (.bipush 12, 2) := by decide +kernel
theorem dX10_init_113 : decode cX10_init 113 = .ok (.if_icmp .ge 22, 3) := by decide +kernel
theorem dX10_init_116 : decode cX10_init 116 = .ok (.aload_n 0, 1) := by decide +kernel
theorem dX10_init_117 : decode cX10_init 117 = .ok (.getfield 46, 3) := by decide +kernel
theorem dX10_init_120 : decode cX10_init 120 = .ok (.iload_n 1, 1) := by decide +kernel
theorem dX10_init_121 : decode cX10_init 121 = .ok (.new 39, 3) := by decide +kernel
theorem dX10_init_124 : decode cX10_init 124 = .ok (.dup, 1) := by decide +kernel
theorem dX10_init_125 : decode cX10_init 125 = .ok (.invokespecial 41, 3) := by decide +kernel
theorem dX10_init_128 : decode cX10_init 128 = .ok (.aastore, 1) := by decide +kernel
theorem dX10_init_129 : decode cX10_init 129 = .ok (.iinc 1 1, 3) := by decide +kernel
theorem dX10_init_132 : decode cX10_init 132 = .ok (.goto (-22), 3) := by decide +kernel
theorem dX10_init_135 : decode cX10_init 135 = .ok (.iconst 0, 1) := by decide +kernel
theorem dX10_init_136 : decode cX10_init 136 = .ok (.istore_n 1, 1) := by decide +kernel
theorem dX10_init_137 : decode cX10_init 137 = .ok (.iload_n 1, 1) := by decide +kernel
theorem dX10_init_138 : decode cX10_init 138 = .ok (.iconst 2, 1) := by decide +kernel
theorem dX10_init_139 : decode cX10_init 139 = .ok (.if_icmp .ge 22, 3) := by decide +kernel
theorem dX10_init_142 : decode cX10_init 142 = .ok (.aload_n 0, 1) := by decide +kernel
theorem dX10_init_143 : decode cX10_init 143 = .ok (.getfield 50, 3) := by decide +kernel
theorem dX10_init_146 : decode cX10_init 146 = .ok (.iload_n 1, 1) := by decide +kernel
theorem dX10_init_147 : decode cX10_init 147 = .ok (.new 39, 3) := by decide +kernel
theorem dX10_init_150 : decode cX10_init 150 = .ok (.dup, 1) := by decide +kernel
theorem dX10_init_151 : decode cX10_init 151 = .ok (.invokespecial 41, 3) := by decide +kernel
theorem dX10_init_154 : decode cX10_init 154 = .ok (.aastore, 1) := by decide +kernel
theorem dX10_init_155 : decode cX10_init 155 = .ok (.iinc 1 1, 3) := by decide +kernel
theorem dX10_init_158 : decode cX10_init 158 = .ok (.goto (-21), 3) := by decide +kernel
theorem dX10_init_161 : decode cX10_init 161 = .ok (.return_, 1) := by decide +kernel
theorem dX10_feed_0 : decode cX10_feed 0 = .ok (.aload_n 0, 1) := by decide +kernel
theorem dX10_feed_1 : decode cX10_feed 1 = .ok (.getfield 61, 3) := by decide +kernel
theorem dX10_feed_4 : decode cX10_feed 4 = .ok (.bipush 20, 2) := by decide +kernel
theorem dX10_feed_6 : decode cX10_feed 6 = .ok (.iadd, 1) := by decide +kernel
theorem dX10_feed_7 : decode cX10_feed 7 = .ok (.sipush 600, 3) := by decide +kernel
theorem dX10_feed_10 : decode cX10_feed 10 = .ok (.if_icmp .le 5, 3) := by decide +kernel
theorem dX10_feed_13 : decode cX10_feed 13 = .ok (.iconst (-1), 1) := by decide +kernel
theorem dX10_feed_14 : decode cX10_feed 14 = .ok (.ireturn, 1) := by decide +kernel
theorem dX10_feed_15 : decode cX10_feed 15 = .ok (.aload_n 0, 1) := by decide +kernel
theorem dX10_feed_16 : decode cX10_feed 16 = .ok (.iload_n 1, 1) := by decide +kernel
theorem dX10_feed_17 : decode cX10_feed 17 = .ok (.invokevirtual 65, 3) := by decide +kernel
theorem dX10_feed_20 : decode cX10_feed 20 = .ok (.aload_n 0, 1) := by decide +kernel
theorem dX10_feed_21 : decode cX10_feed 21 = .ok (.iload_n 2, 1) := by decide +kernel
theorem dX10_feed_22 : decode cX10_feed 22 = .ok (.invokevirtual 65, 3) := by decide +kernel
theorem dX10_feed_25 : decode cX10_feed 25 = .ok (.aload_n 0, 1) := by decide +kernel
theorem dX10_feed_26 : decode cX10_feed 26 = .ok (.iload_n 3, 1) := by decide +kernel
theorem dX10_feed_27 : decode cX10_feed 27 = .ok (.invokevirtual 65, 3) := by decide +kernel
theorem dX10_feed_30 : decode cX10_feed 30 = .ok (.aload_n 0, 1) := by decide +kernel
theorem dX10_feed_31 : decode cX10_feed 31 = .ok (.iload 4, 2) := by decide +kernel
theorem dX10_feed_33 : decode cX10_feed 33 = .ok (.invokevirtual 65, 3) := by decide +kernel
theorem dX10_feed_36 : decode cX10_feed 36 = .ok (.aload_n 0, 1) := by decide +kernel
theorem dX10_feed_37 : decode cX10_feed 37 = .ok (.iload 5, 2) := by decide +kernel
theorem dX10_feed_39 : decode cX10_feed 39 = .ok (.invokevirtual 65, 3) := by decide +kernel
theorem dX10_feed_42 : decode cX10_feed 42 = .ok (.aload_n 0, 1) := by decide +kernel
theorem dX10_feed_43 : decode cX10_feed 43 = .ok (.getfield 61, 3) := by decide +kernel
theorem dX10_feed_46 : decode cX10_feed 46 = .ok (.ireturn, 1) := by decide +kernel
theorem dX10_tapeNumber_0 : decode cX10_tapeNumber 0 = .ok (.bipush 24, 2) := by decide +kernel
theorem dX10_tapeNumber_2 : decode cX10_tapeNumber 2 = .ok (.istore_n 2, 1) := by decide +kernel
theorem dX10_tapeNumber_3 : decode cX10_tapeNumber 3 = .ok (.iload_n 2, 1) := by decide +kernel
theorem dX10_tapeNumber_4 : decode cX10_tapeNumber 4 = .ok (.ifCond .lt 42, 3) := by decide +kernel
theorem dX10_tapeNumber_7 : decode cX10_tapeNumber 7 = .ok (.aload_n 0, 1) := by decide +kernel
theorem dX10_tapeNumber_8 : decode cX10_tapeNumber 8 = .ok (.getfield 61, 3) := by decide +kernel
theorem dX10_tapeNumber_11 : decode cX10_tapeNumber 11 = .ok (.sipush 600, 3) := by decide +kernel
theorem dX10_tapeNumber_14 : decode cX10_tapeNumber 14 = .ok (.if_icmp .ge 32, 3) := by decide +kernel
theorem dX10_tapeNumber_17 : decode cX10_tapeNumber 17 = .ok (.aload_n 0, 1) := by decide +kernel
theorem dX10_tapeNumber_18 : decode cX10_tapeNumber 18 = .ok (.getfield 9, 3) := by decide +kernel
theorem dX10_tapeNumber_21 : decode cX10_tapeNumber 21 = .ok (.aload_n 0, 1) := by decide +kernel
theorem dX10_tapeNumber_22 : decode cX10_tapeNumber 22 = .ok (.getfield 61, 3) := by decide +kernel
theorem dX10_tapeNumber_25 : decode cX10_tapeNumber 25 = .ok (.iload_n 1, 1) := by decide +kernel
theorem dX10_tapeNumber_26 : decode cX10_tapeNumber 26 = .ok (.iload_n 2, 1) := by decide +kernel
theorem dX10_tapeNumber_27 : decode cX10_tapeNumber 27 = .ok (.ishr, 1) := by decide +kernel
theorem dX10_tapeNumber_28 : decode cX10_tapeNumber 28 = .ok (.i2b, 1) := by decide +kernel
theorem dX10_tapeNumber_29 : decode cX10_tapeNumber 29 = .ok (.bastore, 1) := by decide +kernel
theorem dX10_tapeNumber_30 : decode cX10_tapeNumber 30 = .ok (.aload_n 0, 1) := by decide +kernel
theorem dX10_tapeNumber_31 : decode cX10_tapeNumber 31 = .ok (.dup, 1) := by decide +kernel
theorem dX10_tapeNumber_32 : decode cX10_tapeNumber 32 = .ok (.getfield 61, 3) := by decide +kernel
theorem dX10_tapeNumber_35 : decode cX10_tapeNumber 35 = .ok (.iconst 1, 1) := by decide +kernel
theorem dX10_tapeNumber_36 : decode cX10_tapeNumber 36 = .ok (.iadd, 1) := by decide +kernel
theorem dX10_tapeNumber_37 : decode cX10_tapeNumber 37 = .ok (.putfield 61, 3) := by decide +kernel
theorem dX10_tapeNumber_40 : decode cX10_tapeNumber 40 = .ok (.iinc 2 (-8), 3) := by decide +kernel
theorem dX10_tapeNumber_43 : decode cX10_tapeNumber 43 = .ok (.goto (-40), 3) := by decide +kernel
theorem dX10_tapeNumber_46 : decode cX10_tapeNumber 46 = .ok (.return_, 1) := by decide +kernel
theorem dX10_text_0 : decode cX10_text 0 = .ok (.iload_n 1, 1) := by decide +kernel
theorem dX10_text_1 : decode cX10_text 1 = .ok (.ifCond .lt 11, 3) := by decide +kernel
theorem dX10_text_4 : decode cX10_text 4 = .ok (.iload_n 1, 1) := by decide +kernel
theorem dX10_text_5 : decode cX10_text 5 = .ok (.aload_n 0, 1) := by decide +kernel
theorem dX10_text_6 : decode cX10_text 6 = .ok (.getfield 61, 3) := by decide +kernel
theorem dX10_text_9 : decode cX10_text 9 = .ok (.if_icmp .le 5, 3) := by decide +kernel
theorem dX10_text_12 : decode cX10_text 12 = .ok (.iconst (-1), 1) := by decide +kernel
theorem dX10_text_13 : decode cX10_text 13 = .ok (.ireturn, 1) := by decide +kernel
theorem dX10_text_14 : decode cX10_text 14 = .ok (.aload_n 0, 1) := by decide +kernel
theorem dX10_text_15 : decode cX10_text 15 = .ok (.iconst 0, 1) := by decide +kernel
theorem dX10_text_16 : decode cX10_text 16 = .ok (.putfield 61, 3) := by decide +kernel
theorem dX10_text_19 : decode cX10_text 19 = .ok (.aload_n 0, 1) := by decide +kernel
theorem dX10_text_20 : decode cX10_text 20 = .ok (.getfield 28, 3) := by decide +kernel
theorem dX10_text_23 : decode cX10_text 23 = .ok (.aload_n 0, 1) := by decide +kernel
theorem dX10_text_24 : decode cX10_text 24 = .ok (.getfield 20, 3) := by decide +kernel
theorem dX10_text_27 : decode cX10_text 27 = .ok (.iload_n 1, 1) := by decide +kernel
theorem dX10_text_28 : decode cX10_text 28 = .ok (.invokevirtual 69, 3) := by decide +kernel
theorem dX10_text_31 : decode cX10_text 31 = .ok (.iconst 0, 1) := by decide +kernel
theorem dX10_text_32 : decode cX10_text 32 = .ok (.istore_n 2, 1) := by decide +kernel
theorem dX10_text_33 : decode cX10_text 33 = .ok (.iload_n 2, 1) := by decide +kernel
theorem dX10_text_34 : decode cX10_text 34 = .ok (.sipush 600, 3) := by decide +kernel
theorem dX10_text_37 : decode cX10_text 37 = .ok (.if_icmp .gt 56, 3) := by decide +kernel
theorem dX10_text_40 : decode cX10_text 40 = .ok (.aload_n 0, 1) := by decide +kernel
theorem dX10_text_41 : decode cX10_text 41 = .ok (.getfield 28, 3) := by decide +kernel
theorem dX10_text_44 : decode cX10_text 44 = .ok (.getfield 73, 3) := by decide +kernel
theorem dX10_text_47 : decode cX10_text 47 = .ok (.getstatic 77, 3) := by decide +kernel
theorem dX10_text_50 : decode cX10_text 50 = .ok (.if_acmp .eq 43, 3) := by decide +kernel
theorem dX10_text_53 : decode cX10_text 53 = .ok (.aload_n 0, 1) := by decide +kernel
theorem dX10_text_54 : decode cX10_text 54 = .ok (.getfield 28, 3) := by decide +kernel
theorem dX10_text_57 : decode cX10_text 57 = .ok (.invokevirtual 82, 3) := by decide +kernel
theorem dX10_text_60 : decode cX10_text 60 = .ok (.ifCond .eq 16, 3) := by decide +kernel
theorem dX10_text_63 : decode cX10_text 63 = .ok (.aload_n 0, 1) := by decide +kernel
theorem dX10_text_64 : decode cX10_text 64 = .ok (.getfield 28, 3) := by decide +kernel
theorem dX10_text_67 : decode cX10_text 67 = .ok (.getstatic 86, 3) := by decide +kernel
theorem dX10_text_70 : decode cX10_text 70 = .ok (.invokevirtual 89, 3) := by decide +kernel
theorem dX10_text_73 : decode cX10_text 73 = .ok (.ifCond .ne 14, 3) := by decide +kernel
theorem dX10_text_76 : decode cX10_text 76 = .ok (.bipush (-2), 2) := by decide +kernel
theorem dX10_text_78 : decode cX10_text 78 = .ok (.aload_n 0, 1) := by decide +kernel
theorem dX10_text_79 : decode cX10_text 79 = .ok (.getfield 28, 3) := by decide +kernel
theorem dX10_text_82 : decode cX10_text 82 = .ok (.getfield 93, 3) := by decide +kernel
theorem dX10_text_85 : decode cX10_text 85 = .ok (.isub, 1) := by decide +kernel
theorem dX10_text_86 : decode cX10_text 86 = .ok (.ireturn, 1) := by decide +kernel
theorem dX10_text_87 : decode cX10_text 87 = .ok (.iinc 2 1, 3) := by decide +kernel
theorem dX10_text_90 : decode cX10_text 90 = .ok (.goto (-57), 3) := by decide +kernel
theorem dX10_text_93 : decode cX10_text 93 = .ok (.aload_n 0, 1) := by decide +kernel
theorem dX10_text_94 : decode cX10_text 94 = .ok (.getfield 16, 3) := by decide +kernel
theorem dX10_text_97 : decode cX10_text 97 = .ok (.astore_n 2, 1) := by decide +kernel
theorem dX10_text_98 : decode cX10_text 98 = .ok (.aload_n 0, 1) := by decide +kernel
theorem dX10_text_99 : decode cX10_text 99 = .ok (.aload_n 0, 1) := by decide +kernel
theorem dX10_text_100 : decode cX10_text 100 = .ok (.getfield 20, 3) := by decide +kernel
theorem dX10_text_103 : decode cX10_text 103 = .ok (.putfield 16, 3) := by decide +kernel
theorem dX10_text_106 : decode cX10_text 106 = .ok (.aload_n 0, 1) := by decide +kernel
theorem dX10_text_107 : decode cX10_text 107 = .ok (.aload_n 2, 1) := by decide +kernel
theorem dX10_text_108 : decode cX10_text 108 = .ok (.putfield 20, 3) := by decide +kernel
theorem dX10_text_111 : decode cX10_text 111 = .ok (.aload_n 0, 1) := by decide +kernel
theorem dX10_text_112 : decode cX10_text 112 = .ok (.getfield 42, 3) := by decide +kernel
theorem dX10_text_115 : decode cX10_text 115 = .ok (.aload_n 0, 1) := by decide +kernel
theorem dX10_text_116 : decode cX10_text 116 = .ok (.getfield 16, 3) := by decide +kernel
theorem dX10_text_119 : decode cX10_text 119 = .ok (.invokevirtual 96, 3) := by decide +kernel
theorem dX10_text_122 : decode cX10_text 122 = .ok (.aload_n 0, 1) := by decide +kernel
theorem dX10_text_123 : decode cX10_text 123 = .ok (.iconst 0, 1) := by decide +kernel
theorem dX10_text_124 : decode cX10_text 124 = .ok (.putfield 99, 3) := by decide +kernel
theorem dX10_text_127 : decode cX10_text 127 = .ok (.iconst 0, 1) := by decide +kernel
theorem dX10_text_128 : decode cX10_text 128 = .ok (.istore_n 3, 1) := by decide +kernel
theorem dX10_text_129 : decode cX10_text 129 = .ok (.iload_n 3, 1) := by decide +kernel
theorem dX10_text_130 : decode cX10_text 130 = .ok (.iconst 2, 1) := by decide +kernel
theorem dX10_text_131 : decode cX10_text 131 = .ok (.if_icmp .ge 16, 3) := by decide +kernel
theorem dX10_text_134 : decode cX10_text 134 = .ok (.aload_n 0, 1) := by decide +kernel
theorem dX10_text_135 : decode cX10_text 135 = .ok (.getfield 53, 3) := by decide +kernel
theorem dX10_text_138 : decode cX10_text 138 = .ok (.iload_n 3, 1) := by decide +kernel
theorem dX10_text_139 : decode cX10_text 139 = .ok (.iconst 0, 1) := by decide +kernel
theorem dX10_text_140 : decode cX10_text 140 = .ok (.bastore, 1) := by decide +kernel
theorem dX10_text_141 : decode cX10_text 141 = .ok (.iinc 3 1, 3) := by decide +kernel
theorem dX10_text_144 : decode cX10_text 144 = .ok (.goto (-15), 3) := by decide +kernel
theorem dX10_text_147 : decode cX10_text 147 = .ok (.aload_n 0, 1) := by decide +kernel
theorem dX10_text_148 : decode cX10_text 148 = .ok (.getfield 16, 3) := by decide +kernel
theorem dX10_text_151 : decode cX10_text 151 = .ok (.getfield 102, 3) := by decide +kernel
theorem dX10_text_154 : decode cX10_text 154 = .ok (.ireturn, 1) := by decide +kernel
theorem dX10_camera_0 : decode cX10_camera 0 = .ok (.iload_n 1, 1) := by decide +kernel
theorem dX10_camera_1 : decode cX10_camera 1 = .ok (.ifCond .lt 14, 3) := by decide +kernel
theorem dX10_camera_4 : decode cX10_camera 4 = .ok (.iload_n 1, 1) := by decide +kernel
theorem dX10_camera_5 : decode cX10_camera 5 = .ok (.aload_n 0, 1) := by decide +kernel
theorem dX10_camera_6 : decode cX10_camera 6 = .ok (.getfield 16, 3) := by decide +kernel
theorem dX10_camera_9 : decode cX10_camera 9 = .ok (.getfield 105, 3) := by decide +kernel
theorem dX10_camera_12 : decode cX10_camera 12 = .ok (.if_icmp .lt 5, 3) := by decide +kernel
theorem dX10_camera_15 : decode cX10_camera 15 = .ok (.iconst (-1), 1) := by decide +kernel
theorem dX10_camera_16 : decode cX10_camera 16 = .ok (.ireturn, 1) := by decide +kernel
theorem dX10_camera_17 : decode cX10_camera 17 = .ok (.iload_n 2, 1) := by decide +kernel
theorem dX10_camera_18 : decode cX10_camera 18 = .ok (.tableswitch 110 0 3 #[30, 40, 50, 80], 30) := by decide +kernel
theorem dX10_camera_48 : decode cX10_camera 48 = .ok (.aload_n 0, 1) := by decide +kernel
theorem dX10_camera_49 : decode cX10_camera 49 = .ok (.getfield 16, 3) := by decide +kernel
theorem dX10_camera_52 : decode cX10_camera 52 = .ok (.getfield 108, 3) := by decide +kernel
theorem dX10_camera_55 : decode cX10_camera 55 = .ok (.iload_n 1, 1) := by decide +kernel
theorem dX10_camera_56 : decode cX10_camera 56 = .ok (.iaload, 1) := by decide +kernel
theorem dX10_camera_57 : decode cX10_camera 57 = .ok (.ireturn, 1) := by decide +kernel
theorem dX10_camera_58 : decode cX10_camera 58 = .ok (.aload_n 0, 1) := by decide +kernel
theorem dX10_camera_59 : decode cX10_camera 59 = .ok (.getfield 16, 3) := by decide +kernel
theorem dX10_camera_62 : decode cX10_camera 62 = .ok (.getfield 111, 3) := by decide +kernel
theorem dX10_camera_65 : decode cX10_camera 65 = .ok (.iload_n 1, 1) := by decide +kernel
theorem dX10_camera_66 : decode cX10_camera 66 = .ok (.iaload, 1) := by decide +kernel
theorem dX10_camera_67 : decode cX10_camera 67 = .ok (.ireturn, 1) := by decide +kernel
theorem dX10_camera_68 : decode cX10_camera 68 = .ok (.aload_n 0, 1) := by decide +kernel
theorem dX10_camera_69 : decode cX10_camera 69 = .ok (.getfield 16, 3) := by decide +kernel
theorem dX10_camera_72 : decode cX10_camera 72 = .ok (.getfield 114, 3) := by decide +kernel
theorem dX10_camera_75 : decode cX10_camera 75 = .ok (.getfield 118, 3) := by decide +kernel
theorem dX10_camera_78 : decode cX10_camera 78 = .ok (.ifCond .eq 8, 3) := by decide +kernel
theorem dX10_camera_81 : decode cX10_camera 81 = .ok (.bipush (-2), 2) := by decide +kernel
theorem dX10_camera_83 : decode cX10_camera 83 = .ok (.goto 14, 3) := by decide +kernel
theorem dX10_camera_86 : decode cX10_camera 86 = .ok (.aload_n 0, 1) := by decide +kernel
theorem dX10_camera_87 : decode cX10_camera 87 = .ok (.getfield 16, 3) := by decide +kernel
theorem dX10_camera_90 : decode cX10_camera 90 = .ok (.getfield 114, 3) := by decide +kernel
theorem dX10_camera_93 : decode cX10_camera 93 = .ok (.iload_n 1, 1) := by decide +kernel
theorem dX10_camera_94 : decode cX10_camera 94 = .ok (.invokevirtual 124, 3) := by decide +kernel
theorem dX10_camera_97 : decode cX10_camera 97 = .ok (.ireturn, 1) := by decide +kernel
theorem dX10_camera_98 : decode cX10_camera 98 = .ok (.aload_n 0, 1) := by decide +kernel
theorem dX10_camera_99 : decode cX10_camera 99 = .ok (.getfield 16, 3) := by decide +kernel
theorem dX10_camera_102 : decode cX10_camera 102 = .ok (.getfield 114, 3) := by decide +kernel
theorem dX10_camera_105 : decode cX10_camera 105 = .ok (.getfield 118, 3) := by decide +kernel
theorem dX10_camera_108 : decode cX10_camera 108 = .ok (.ifCond .eq 8, 3) := by decide +kernel
theorem dX10_camera_111 : decode cX10_camera 111 = .ok (.bipush (-2), 2) := by decide +kernel
theorem dX10_camera_113 : decode cX10_camera 113 = .ok (.goto 14, 3) := by decide +kernel
theorem dX10_camera_116 : decode cX10_camera 116 = .ok (.aload_n 0, 1) := by decide +kernel
theorem dX10_camera_117 : decode cX10_camera 117 = .ok (.getfield 16, 3) := by decide +kernel
theorem dX10_camera_120 : decode cX10_camera 120 = .ok (.getfield 114, 3) := by decide +kernel
theorem dX10_camera_123 : decode cX10_camera 123 = .ok (.iload_n 1, 1) := by decide +kernel
theorem dX10_camera_124 : decode cX10_camera 124 = .ok (.invokevirtual 127, 3) := by decide +kernel
theorem dX10_camera_127 : decode cX10_camera 127 = .ok (.ireturn, 1) := by decide +kernel
theorem dX10_camera_128 : decode cX10_camera 128 = .ok (.iconst (-1), 1) := by decide +kernel
theorem dX10_camera_129 : decode cX10_camera 129 = .ok (.ireturn, 1) := by decide +kernel
theorem dX10_play_0 : decode cX10_play 0 = .ok (.aload_n 0, 1) := by decide +kernel
theorem dX10_play_1 : decode cX10_play 1 = .ok (.iload_n 1, 1) := by decide +kernel
theorem dX10_play_2 : decode cX10_play 2 = .ok (.invokevirtual 184, 3) := by decide +kernel
theorem dX10_play_5 : decode cX10_play 5 = .ok (.ifCond .ne 5, 3) := by decide +kernel
theorem dX10_play_8 : decode cX10_play 8 = .ok (.iconst (-1), 1) := by decide +kernel
theorem dX10_play_9 : decode cX10_play 9 = .ok (.ireturn, 1) := by decide +kernel
theorem dX10_play_10 : decode cX10_play 10 = .ok (.aload_n 0, 1) := by decide +kernel
theorem dX10_play_11 : decode cX10_play 11 = .ok (.getfield 16, 3) := by decide +kernel
theorem dX10_play_14 : decode cX10_play 14 = .ok (.getfield 169, 3) := by decide +kernel
theorem dX10_play_17 : decode cX10_play 17 = .ok (.iload_n 1, 1) := by decide +kernel
theorem dX10_play_18 : decode cX10_play 18 = .ok (.aaload, 1) := by decide +kernel
theorem dX10_play_19 : decode cX10_play 19 = .ok (.astore_n 3, 1) := by decide +kernel
theorem dX10_play_20 : decode cX10_play 20 = .ok (.iload_n 2, 1) := by decide +kernel
theorem dX10_play_21 : decode cX10_play 21 = .ok (.tableswitch 140 0 8 #[51, 56, 61, 66, 71, 76, 81, 106, 123], 51) := by decide +kernel
theorem dX10_play_72 : decode cX10_play 72 = .ok (.aload_n 3, 1) := by decide +kernel
theorem dX10_play_73 : decode cX10_play 73 = .ok (.getfield 187, 3) := by decide +kernel
theorem dX10_play_76 : decode cX10_play 76 = .ok (.ireturn, 1) := by decide +kernel
theorem dX10_play_77 : decode cX10_play 77 = .ok (.aload_n 3, 1) := by decide +kernel
theorem dX10_play_78 : decode cX10_play 78 = .ok (.getfield 190, 3) := by decide +kernel
theorem dX10_play_81 : decode cX10_play 81 = .ok (.ireturn, 1) := by decide +kernel
theorem dX10_play_82 : decode cX10_play 82 = .ok (.aload_n 3, 1) := by decide +kernel
theorem dX10_play_83 : decode cX10_play 83 = .ok (.getfield 173, 3) := by decide +kernel
theorem dX10_play_86 : decode cX10_play 86 = .ok (.ireturn, 1) := by decide +kernel
theorem dX10_play_87 : decode cX10_play 87 = .ok (.aload_n 3, 1) := by decide +kernel
theorem dX10_play_88 : decode cX10_play 88 = .ok (.getfield 181, 3) := by decide +kernel
theorem dX10_play_91 : decode cX10_play 91 = .ok (.ireturn, 1) := by decide +kernel
theorem dX10_play_92 : decode cX10_play 92 = .ok (.aload_n 3, 1) := by decide +kernel
theorem dX10_play_93 : decode cX10_play 93 = .ok (.getfield 192, 3) := by decide +kernel
theorem dX10_play_96 : decode cX10_play 96 = .ok (.ireturn, 1) := by decide +kernel
theorem dX10_play_97 : decode cX10_play 97 = .ok (.aload_n 3, 1) := by decide +kernel
theorem dX10_play_98 : decode cX10_play 98 = .ok (.getfield 194, 3) := by decide +kernel
theorem dX10_play_101 : decode cX10_play 101 = .ok (.ireturn, 1) := by decide +kernel
theorem dX10_play_102 : decode cX10_play 102 = .ok (.iload_n 1, 1) := by decide +kernel
theorem dX10_play_103 : decode cX10_play 103 = .ok (.aload_n 0, 1) := by decide +kernel
theorem dX10_play_104 : decode cX10_play 104 = .ok (.getfield 42, 3) := by decide +kernel
theorem dX10_play_107 : decode cX10_play 107 = .ok (.getfield 166, 3) := by decide +kernel
theorem dX10_play_110 : decode cX10_play 110 = .ok (.if_icmp .ge 14, 3) := by decide +kernel
theorem dX10_play_113 : decode cX10_play 113 = .ok (.aload_n 0, 1) := by decide +kernel
theorem dX10_play_114 : decode cX10_play 114 = .ok (.getfield 42, 3) := by decide +kernel
theorem dX10_play_117 : decode cX10_play 117 = .ok (.iload_n 1, 1) := by decide +kernel
theorem dX10_play_118 : decode cX10_play 118 = .ok (.invokevirtual 178, 3) := by decide +kernel
theorem dX10_play_121 : decode cX10_play 121 = .ok (.goto 5, 3) := by decide +kernel
theorem dX10_play_124 : decode cX10_play 124 = .ok (.bipush (-2), 2) := by decide +kernel
theorem dX10_play_126 : decode cX10_play 126 = .ok (.ireturn, 1) := by decide +kernel
theorem dX10_play_127 : decode cX10_play 127 = .ok (.aload_n 0, 1) := by decide +kernel
theorem dX10_play_128 : decode cX10_play 128 = .ok (.getfield 42, 3) := by decide +kernel
theorem dX10_play_131 : decode cX10_play 131 = .ok (.iload_n 1, 1) := by decide +kernel
theorem dX10_play_132 : decode cX10_play 132 = .ok (.invokevirtual 197, 3) := by decide +kernel
theorem dX10_play_135 : decode cX10_play 135 = .ok (.ifCond .eq 7, 3) := by decide +kernel
theorem dX10_play_138 : decode cX10_play 138 = .ok (.iconst 1, 1) := by decide +kernel
theorem dX10_play_139 : decode cX10_play 139 = .ok (.goto 4, 3) := by decide +kernel
theorem dX10_play_142 : decode cX10_play 142 = .ok (.iconst 0, 1) := by decide +kernel
theorem dX10_play_143 : decode cX10_play 143 = .ok (.ireturn, 1) := by decide +kernel
theorem dX10_play_144 : decode cX10_play 144 = .ok (.aload_n 0, 1) := by decide +kernel
theorem dX10_play_145 : decode cX10_play 145 = .ok (.getfield 42, 3) := by decide +kernel
theorem dX10_play_148 : decode cX10_play 148 = .ok (.iload_n 1, 1) := by decide +kernel
theorem dX10_play_149 : decode cX10_play 149 = .ok (.invokevirtual 200, 3) := by decide +kernel
theorem dX10_play_152 : decode cX10_play 152 = .ok (.ifCond .eq 7, 3) := by decide +kernel
theorem dX10_play_155 : decode cX10_play 155 = .ok (.iconst 1, 1) := by decide +kernel
theorem dX10_play_156 : decode cX10_play 156 = .ok (.goto 4, 3) := by decide +kernel
theorem dX10_play_159 : decode cX10_play 159 = .ok (.iconst 0, 1) := by decide +kernel
theorem dX10_play_160 : decode cX10_play 160 = .ok (.ireturn, 1) := by decide +kernel
theorem dX10_play_161 : decode cX10_play 161 = .ok (.iconst (-1), 1) := by decide +kernel
theorem dX10_play_162 : decode cX10_play 162 = .ok (.ireturn, 1) := by decide +kernel
theorem dX10_frame_0 : decode cX10_frame 0 = .ok (.aload_n 0, 1) := by decide +kernel
theorem dX10_frame_1 : decode cX10_frame 1 = .ok (.iload_n 1, 1) := by decide +kernel
theorem dX10_frame_2 : decode cX10_frame 2 = .ok (.invokevirtual 184, 3) := by decide +kernel
theorem dX10_frame_5 : decode cX10_frame 5 = .ok (.ifCond .eq 32, 3) := by decide +kernel
theorem dX10_frame_8 : decode cX10_frame 8 = .ok (.iload_n 2, 1) := by decide +kernel
theorem dX10_frame_9 : decode cX10_frame 9 = .ok (.ifCond .lt 28, 3) := by decide +kernel
theorem dX10_frame_12 : decode cX10_frame 12 = .ok (.iload_n 2, 1) := by decide +kernel
theorem dX10_frame_13 : decode cX10_frame 13 = .ok (.aload_n 0, 1) := by decide +kernel
theorem dX10_frame_14 : decode cX10_frame 14 = .ok (.getfield 16, 3) := by decide +kernel
theorem dX10_frame_17 : decode cX10_frame 17 = .ok (.getfield 169, 3) := by decide +kernel
theorem dX10_frame_20 : decode cX10_frame 20 = .ok (.iload_n 1, 1) := by decide +kernel
theorem dX10_frame_21 : decode cX10_frame 21 = .ok (.aaload, 1) := by decide +kernel
theorem dX10_frame_22 : decode cX10_frame 22 = .ok (.getfield 194, 3) := by decide +kernel
theorem dX10_frame_25 : decode cX10_frame 25 = .ok (.if_icmp .ge 12, 3) := by decide +kernel
theorem dX10_frame_28 : decode cX10_frame 28 = .ok (.iload_n 3, 1) := by decide +kernel
theorem dX10_frame_29 : decode cX10_frame 29 = .ok (.ifCond .lt 8, 3) := by decide +kernel
