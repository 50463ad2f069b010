theorem dX10_init_8 : decode cX10_init 8 = .ok (.newarray .byte, 2) := by decide +kernel
theorem dX10_init_10 : decode cX10_init 10 = .ok (.putfield 9, 3) := by decide +kernel
theorem dX10_init_13 : decode cX10_init 13 = .ok (.aload_n 0, 1) := by decide +kernel
theorem dX10_init_14 : decode cX10_init 14 = .ok (.new 13, 3) := by decide +kernel
theorem dX10_init_17 : decode cX10_init 17 = .ok (.dup, 1) := by decide +kernel
theorem dX10_init_18 : decode cX10_init 18 = .ok (.invokespecial 15, 3) := by decide +kernel
theorem dX10_init_21 : decode cX10_init 21 = .ok (.putfield 16, 3) := by decide +kernel
theorem dX10_init_24 : decode cX10_init 24 = .ok (.aload_n 0, 1) := by decide +kernel
theorem dX10_init_25 : decode cX10_init 25 = .ok (.new 13, 3) := by decide +kernel
theorem dX10_init_28 : decode cX10_init 28 = .ok (.dup, 1) := by decide +kernel
theorem dX10_init_29 : decode cX10_init 29 = .ok (.invokespecial 15, 3) := by decide +kernel
theorem dX10_init_32 : decode cX10_init 32 = .ok (.putfield 20, 3) := by decide +kernel
theorem dX10_init_35 : decode cX10_init 35 = .ok (.aload_n 0, 1) := by decide +kernel
theorem dX10_init_36 : decode cX10_init 36 = .ok (.new 23, 3) := by decide +kernel
theorem dX10_init_39 : decode cX10_init 39 = .ok (.dup, 1) := by decide +kernel
theorem dX10_init_40 : decode cX10_init 40 = .ok (.aload_n 0, 1) := by decide +kernel
theorem dX10_init_41 : decode cX10_init 41 = .ok (.getfield 9, 3) := by decide +kernel
theorem dX10_init_44 : decode cX10_init 44 = .ok (.aload_n 0, 1) := by decide +kernel
theorem dX10_init_45 : decode cX10_init 45 = .ok (.getfield 20, 3) := by decide +kernel
theorem dX10_init_48 : decode cX10_init 48 = .ok (.invokespecial 25, 3) := by decide +kernel
theorem dX10_init_51 : decode cX10_init 51 = .ok (.putfield 28, 3) := by decide +kernel
theorem dX10_init_54 : decode cX10_init 54 = .ok (.aload_n 0, 1) := by decide +kernel
theorem dX10_init_55 : decode cX10_init 55 = .ok (.new 32, 3) := by decide +kernel
theorem dX10_init_58 : decode cX10_init 58 = .ok (.dup, 1) := by decide +kernel
theorem dX10_init_59 : decode cX10_init 59 = .ok (.invokespecial 34, 3) := by decide +kernel
theorem dX10_init_62 : decode cX10_init 62 = .ok (.putfield 35, 3) := by decide +kernel
theorem dX10_init_65 : decode cX10_init 65 = .ok (.aload_n 0, 1) := by decide +kernel
theorem dX10_init_66 : decode cX10_init 66 = .ok (.new 39, 3) := by decide +kernel
theorem dX10_init_69 : decode cX10_init 69 = .ok (.dup, 1) := by decide +kernel
theorem dX10_init_70 : decode cX10_init 70 = .ok (.invokespecial 41, 3) := by decide +kernel
theorem dX10_init_73 : decode cX10_init 73 = .ok (.putfield 42, 3) := by decide +kernel
theorem dX10_init_76 : decode cX10_init 76 = .ok (.aload_n 0, 1) := by decide +kernel
theorem dX10_init_77 : decode cX10_init 77 = .ok (.bipush 12, 2) := by decide +kernel
theorem dX10_init_79 : decode cX10_init 79 = .ok (.anewarray 39, 3) := by decide +kernel
theorem dX10_init_82 : decode cX10_init 82 = .ok (.putfield 46, 3) := by decide +kernel
theorem dX10_init_85 : decode cX10_init 85 = .ok (.aload_n 0, 1) := by decide +kernel
theorem dX10_init_86 : decode cX10_init 86 = .ok (.iconst 2, 1) := by decide +kernel
theorem dX10_init_87 : decode cX10_init 87 = .ok (.anewarray 39, 3) := by decide +kernel
theorem dX10_init_90 : decode cX10_init 90 = .ok (.putfield 50, 3) := by decide +kernel
theorem dX10_init_93 : decode cX10_init 93 = .ok (.aload_n 0, 1) := by decide +kernel
theorem dX10_init_94 : decode cX10_init 94 = .ok (.iconst 2, 1) := by decide +kernel
theorem dX10_init_95 : decode cX10_init 95 = .ok (.newarray .boolean, 2) := by decide +kernel
theorem dX10_init_97 : decode cX10_init 97 = .ok (.putfield 53, 3) := by decide +kernel
theorem dX10_init_100 : decode cX10_init 100 = .ok (.aload_n 0, 1) := by decide +kernel
theorem dX10_init_101 : decode cX10_init 101 = .ok (.bipush 16, 2) := by decide +kernel
theorem dX10_init_103 : decode cX10_init 103 = .ok (.newarray .int, 2) := by decide +kernel
theorem dX10_init_105 : decode cX10_init 105 = .ok (.putfield 57, 3) := by decide +kernel
theorem dX10_init_108 : decode cX10_init 108 = .ok (.iconst 0, 1) := by decide +kernel
theorem dX10_init_109 : decode cX10_init 109 = .ok (.istore_n 1, 1) := by decide +kernel
theorem dX10_init_110 : decode cX10_init 110 = .ok (.iload_n 1, 1) := by decide +kernel
theorem dX10_init_111 : decode cX10_init 111 = .ok (.bipush 12, 2) := by decide +kernel
theorem dX10_init_113 : decode cX10_init 113 = .ok (.if_icmp .ge 22, 3) := by decide +kernel
theorem dX10_init_116 : decode cX10_init 116 = .ok (.aload_n 0, 1) := by decide +kernel
theorem dX10_init_117 : decode cX10_init 117 = .ok (.getfield 46, 3) := by decide +kernel
theorem dX10_init_120 : decode cX10_init 120 = .ok (.iload_n 1, 1) := by decide +kernel
theorem dX10_init_121 : decode cX10_init 121 = .ok (.new 39, 3) := by decide +kernel
theorem dX10_init_124 : decode cX10_init 124 = .ok (.dup, 1) := by decide +kernel
theorem dX10_init_125 : decode cX10_init 125 = .ok (.invokespecial 41, 3) := by decide +kernel
theorem dX10_init_128 : decode cX10_init 128 = .ok (.aastore, 1) := by decide +kernel
theorem dX10_init_129 : decode cX10_init 129 = .ok (.iinc 1 1, 3) := by decide +kernel
theorem dX10_init_132 : decode cX10_init 132 = .ok (.goto (-22), 3) := by decide +kernel
theorem dX10_init_135 : decode cX10_init 135 = .ok (.iconst 0, 1) := by decide +kernel
theorem dX10_init_136 : decode cX10_init 136 = .ok (.istore_n 1, 1) := by decide +kernel
theorem dX10_init_137 : decode cX10_init 137 = .ok (.iload_n 1, 1) := by decide +kernel
theorem dX10_init_138 : decode cX10_init 138 = .ok (.iconst 2, 1) := by decide +kernel
theorem dX10_init_139 : decode cX10_init 139 = .ok (.if_icmp .ge 22, 3) := by decide +kernel
theorem dX10_init_142 : decode cX10_init 142 = .ok (.aload_n 0, 1) := by decide +kernel
theorem dX10_init_143 : decode cX10_init 143 = .ok (.getfield 50, 3) := by decide +kernel
theorem dX10_init_146 : decode cX10_init 146 = .ok (.iload_n 1, 1) := by decide +kernel
theorem dX10_init_147 : decode cX10_init 147 = .ok (.new 39, 3) := by decide +kernel
theorem dX10_init_150 : decode cX10_init 150 = .ok (.dup, 1) := by decide +kernel
theorem dX10_init_151 : decode cX10_init 151 = .ok (.invokespecial 41, 3) := by decide +kernel
theorem dX10_init_154 : decode cX10_init 154 = .ok (.aastore, 1) := by decide +kernel
theorem dX10_init_155 : decode cX10_init 155 = .ok (.iinc 1 1, 3) := by decide +kernel
theorem dX10_init_158 : decode cX10_init 158 = .ok (.goto (-21), 3) := by decide +kernel
theorem dX10_init_161 : decode cX10_init 161 = .ok (.return_, 1) := by decide +kernel
theorem dX10_feed_0 : decode cX10_feed 0 = .ok (.aload_n 0, 1) := by decide +kernel
theorem dX10_feed_1 : decode cX10_feed 1 = .ok (.getfield 61, 3) := by decide +kernel
theorem dX10_feed_4 : decode cX10_feed 4 = .ok (.bipush 20, 2) := by decide +kernel
theorem dX10_feed_6 : decode cX10_feed 6 = .ok (.iadd, 1) := by decide +kernel
theorem dX10_feed_7 : decode cX10_feed 7 = .ok (.sipush 600, 3) := by decide +kernel
theorem dX10_feed_10 : decode cX10_feed 10 = .ok (.if_icmp .le 5, 3) := by decide +kernel
theorem dX10_feed_13 : decode cX10_feed 13 = .ok (.iconst (-1), 1) := by decide +kernel
theorem dX10_feed_14 : decode cX10_feed 14 = .ok (.ireturn, 1) := by decide +kernel
theorem dX10_feed_15 : decode cX10_feed 15 = .ok (.aload_n 0, 1) := by decide +kernel
theorem dX10_feed_16 : decode cX10_feed 16 = .ok (.iload_n 1, 1) := by decide +kernel
theorem dX10_feed_17 : decode cX10_feed 17 = .ok (.invokevirtual 65, 3) := by decide +kernel
theorem dX10_feed_20 : decode cX10_feed 20 = .ok (.aload_n 0, 1) := by decide +kernel
theorem dX10_feed_21 : decode cX10_feed 21 = .ok (.iload_n 2, 1) := by decide +kernel
theorem dX10_feed_22 : decode cX10_feed 22 = .ok (.invokevirtual 65, 3) := by decide +kernel
theorem dX10_feed_25 : decode cX10_feed 25 = .ok (.aload_n 0, 1) := by decide +kernel
theorem dX10_feed_26 : decode cX10_feed 26 = .ok (.iload_n 3, 1) := by decide +kernel
theorem dX10_feed_27 : decode cX10_feed 27 = .ok (.invokevirtual 65, 3) := by decide +kernel
theorem dX10_feed_30 : decode cX10_feed 30 = .ok (.aload_n 0, 1) := by decide +kernel
theorem dX10_feed_31 : decode cX10_feed 31 = .ok (.iload 4, 2) := by decide +kernel
theorem dX10_feed_33 : decode cX10_feed 33 = .ok (.invokevirtual 65, 3) := by decide +kernel
theorem dX10_feed_36 : decode cX10_feed 36 = .ok (.aload_n 0, 1) := by decide +kernel
theorem dX10_feed_37 : decode cX10_feed 37 = .ok (.iload 5, 2) := by decide +kernel
theorem dX10_feed_39 : decode cX10_feed 39 = .ok (.invokevirtual 65, 3) := by decide +kernel
theorem dX10_feed_42 : decode cX10_feed 42 = .ok (.aload_n 0, 1) := by decide +kernel
theorem dX10_feed_43 : decode cX10_feed 43 = .ok (.getfield 61, 3) := by decide +kernel
theorem dX10_feed_46 : decode cX10_feed 46 = .ok (.ireturn, 1) := by decide +kernel
theorem dX10_tapeNumber_0 : decode cX10_tapeNumber 0 = .ok (.bipush 24, 2) := by decide +kernel
theorem dX10_tapeNumber_2 : decode cX10_tapeNumber 2 = .ok (.istore_n 2, 1) := by decide +kernel
theorem dX10_tapeNumber_3 : decode cX10_tapeNumber 3 = .ok (.iload_n 2, 1) := by decide +kernel
theorem dX10_tapeNumber_4 : decode cX10_tapeNumber 4 = .ok (.ifCond .lt 42, 3) := by decide +kernel
theorem dX10_tapeNumber_7 : decode cX10_tapeNumber 7 = .ok (.aload_n 0, 1) := by decide +kernel
theorem dX10_tapeNumber_8 : decode cX10_tapeNumber 8 = .ok (.getfield 61, 3) := by decide +kernel
theorem dX10_tapeNumber_11 : decode cX10_tapeNumber 11 = .ok (.sipush 600, 3) := by decide +kernel
theorem dX10_tapeNumber_14 : decode cX10_tapeNumber 14 = .ok (.if_icmp .ge 32, 3) := by decide +kernel
theorem dX10_tapeNumber_17 : decode cX10_tapeNumber 17 = .ok (.aload_n 0, 1) := by decide +kernel
theorem dX10_tapeNumber_18 : decode cX10_tapeNumber 18 = .ok (.getfield 9, 3) := by decide +kernel
theorem dX10_tapeNumber_21 : decode cX10_tapeNumber 21 = .ok (.aload_n 0, 1) := by decide +kernel
theorem dX10_tapeNumber_22 : decode cX10_tapeNumber 22 = .ok (.getfield 61, 3) := by decide +kernel
theorem dX10_tapeNumber_25 : decode cX10_tapeNumber 25 = .ok (.iload_n 1, 1) := by decide +kernel
theorem dX10_tapeNumber_26 : decode cX10_tapeNumber 26 = .ok (.iload_n 2, 1) := by decide +kernel
theorem dX10_tapeNumber_27 : decode cX10_tapeNumber 27 = .ok (.ishr, 1) := by decide +kernel
theorem dX10_tapeNumber_28 : decode cX10_tapeNumber 28 = .ok (.i2b, 1) := by decide +kernel
theorem dX10_tapeNumber_29 : decode cX10_tapeNumber 29 = .ok (.bastore, 1) := by decide +kernel
theorem dX10_tapeNumber_30 : decode cX10_tapeNumber 30 = .ok (.aload_n 0, 1) := by decide +kernel
theorem dX10_tapeNumber_31 : decode cX10_tapeNumber 31 = .ok (.dup, 1) := by decide +kernel
theorem dX10_tapeNumber_32 : decode cX10_tapeNumber 32 = .ok (.getfield 61, 3) := by decide +kernel
theorem dX10_tapeNumber_35 : decode cX10_tapeNumber 35 = .ok (.iconst 1, 1) := by decide +kernel
theorem dX10_tapeNumber_36 : decode cX10_tapeNumber 36 = .ok (.iadd, 1) := by decide +kernel
theorem dX10_tapeNumber_37 : decode cX10_tapeNumber 37 = .ok (.putfield 61, 3) := by decide +kernel
theorem dX10_tapeNumber_40 : decode cX10_tapeNumber 40 = .ok (.iinc 2 (-8), 3) := by decide +kernel
theorem dX10_tapeNumber_43 : decode cX10_tapeNumber 43 = .ok (.goto (-40), 3) := by decide +kernel
theorem dX10_tapeNumber_46 : decode cX10_tapeNumber 46 = .ok (.return_, 1) := by decide +kernel
theorem dX10_text_0 : decode cX10_text 0 = .ok (.iload_n 1, 1) := by decide +kernel
theorem dX10_text_1 : decode cX10_text 1 = .ok (.ifCond .lt 11, 3) := by decide +kernel
theorem dX10_text_4 : decode cX10_text 4 = .ok (.iload_n 1, 1) := by decide +kernel
theorem dX10_text_5 : decode cX10_text 5 = .ok (.aload_n 0, 1) := by decide +kernel
theorem dX10_text_6 : decode cX10_text 6 = .ok (.getfield 61, 3) := by decide +kernel
theorem dX10_text_9 : decode cX10_text 9 = .ok (.if_icmp .le 5, 3) := by decide +kernel
theorem dX10_text_12 : decode cX10_text 12 = .ok (.iconst (-1), 1) := by decide +kernel
theorem dX10_text_13 : decode cX10_text 13 = .ok (.ireturn, 1) := by decide +kernel
theorem dX10_text_14 : decode cX10_text 14 = .ok (.aload_n 0, 1) := by decide +kernel
theorem dX10_text_15 : decode cX10_text 15 = .ok (.iconst 0, 1) := by decide +kernel
theorem dX10_text_16 : decode cX10_text 16 = .ok (.putfield 61, 3) := by decide +kernel
theorem dX10_text_19 : decode cX10_text 19 = .ok (.aload_n 0, 1) := by decide +kernel
theorem dX10_text_20 : decode cX10_text 20 = .ok (.getfield 28, 3) := by decide +kernel
theorem dX10_text_23 : decode cX10_text 23 = .ok (.aload_n 0, 1) := by decide +kernel
theorem dX10_text_24 : decode cX10_text 24 = .ok (.getfield 20, 3) := by decide +kernel
theorem dX10_text_27 : decode cX10_text 27 = .ok (.iload_n 1, 1) := by decide +kernel
theorem dX10_text_28 : decode cX10_text 28 = .ok (.invokevirtual 69, 3) := by decide +kernel
theorem dX10_text_31 : decode cX10_text 31 = .ok (.iconst 0, 1) := by decide +kernel
theorem dX10_text_32 : decode cX10_text 32 = .ok (.istore_n 2, 1) := by decide +kernel
theorem dX10_text_33 : decode cX10_text 33 = .ok (.iload_n 2, 1) := by decide +kernel
theorem dX10_text_34 : decode cX10_text 34 = .ok (.sipush 600, 3) := by decide +kernel
theorem dX10_text_37 : decode cX10_text 37 = .ok (.if_icmp .gt 56, 3) := by decide +kernel
theorem dX10_text_40 : decode cX10_text 40 = .ok (.aload_n 0, 1) := by decide +kernel
theorem dX10_text_41 : decode cX10_text 41 = .ok (.getfield 28, 3) := by decide +kernel
theorem dX10_text_44 : decode cX10_text 44 = .ok (.getfield 73, 3) := by decide +kernel
theorem dX10_text_47 : decode cX10_text 47 = .ok (.getstatic 77, 3) := by decide +kernel
theorem dX10_text_50 : decode cX10_text 50 = .ok (.if_acmp .eq 43, 3) := by decide +kernel
theorem dX10_text_53 : decode cX10_text 53 = .ok (.aload_n 0, 1) := by decide +kernel
theorem dX10_text_54 : decode cX10_text 54 = .ok (.getfield 28, 3) := by decide +kernel
theorem dX10_text_57 : decode cX10_text 57 = .ok (.invokevirtual 82, 3) := by decide +kernel
theorem dX10_text_60 : decode cX10_text 60 = .ok (.ifCond .eq 16, 3) := by decide +kernel
theorem dX10_text_63 : decode cX10_text 63 = .ok (.aload_n 0, 1) := by decide +kernel
theorem dX10_text_64 : decode cX10_text 64 = .ok (.getfield 28, 3) := by decide +kernel
theorem dX10_text_67 : decode cX10_text 67 = .ok (.getstatic 86, 3) := by decide +kernel
theorem dX10_text_70 : decode cX10_text 70 = .ok (.invokevirtual 89, 3) := by decide +kernel
theorem dX10_text_73 : decode cX10_text 73 = .ok (.ifCond .ne 14, 3) := by decide +kernel
theorem dX10_text_76 : decode cX10_text 76 = .ok (.bipush (-2), 2) := by decide +kernel
theorem dX10_text_78 : decode cX10_text 78 = .ok (.aload_n 0, 1) := by decide +kernel
theorem dX10_text_79 : decode cX10_text 79 = .ok (.getfield 28, 3) := by decide +kernel
theorem dX10_text_82 : decode cX10_text 82 = .ok (.getfield 93, 3) := by decide +kernel
theorem dX10_text_85 : decode cX10_text 85 = .ok (.isub, 1) := by decide +kernel
theorem dX10_text_86 : decode cX10_text 86 = .ok (.ireturn, 1) := by decide +kernel
theorem dX10_text_87 : decode cX10_text 87 = .ok (.iinc 2 1, 3) := by decide +kernel
theorem dX10_text_90 : decode cX10_text 90 = .ok (.goto (-57), 3) := by decide +kernel
theorem dX10_text_93 : decode cX10_text 93 = .ok (.aload_n 0, 1) := by decide +kernel
theorem dX10_text_94 : decode cX10_text 94 = .ok (.getfield 16, 3) := by decide +kernel
theorem dX10_text_97 : decode cX10_text 97 = .ok (.astore_n 2, 1) := by decide +kernel
theorem dX10_text_98 : decode cX10_text 98 = .ok (.aload_n 0, 1) := by decide +kernel
theorem dX10_text_99 : decode cX10_text 99 = .ok (.aload_n 0, 1) := by decide +kernel
theorem dX10_text_100 : decode cX10_text 100 = .ok (.getfield 20, 3) := by decide +kernel
theorem dX10_text_103 : decode cX10_text 103 = .ok (.putfield 16, 3) := by decide +kernel
theorem dX10_text_106 : decode cX10_text 106 = .ok (.aload_n 0, 1) := by decide +kernel
theorem dX10_text_107 : decode cX10_text 107 = .ok (.aload_n 2, 1) := by decide +kernel
theorem dX10_text_108 : decode cX10_text 108 = .ok (.putfield 20, 3) := by decide +kernel
theorem dX10_text_111 : decode cX10_text 111 = .ok (.aload_n 0, 1) := by decide +kernel
theorem dX10_text_112 : decode cX10_text 112 = .ok (.getfield 42, 3) := by decide +kernel
theorem dX10_text_115 : decode cX10_text 115 = .ok (.aload_n 0, 1) := by decide +kernel
theorem dX10_text_116 : decode cX10_text 116 = .ok (.getfield 16, 3) := by decide +kernel
theorem dX10_text_119 : decode cX10_text 119 = .ok (.invokevirtual 96, 3) := by decide +kernel
theorem dX10_text_122 : decode cX10_text 122 = .ok (.aload_n 0, 1) := by decide +kernel
theorem dX10_text_123 : decode cX10_text 123 = .ok (.iconst 0, 1) := by decide +kernel
theorem dX10_text_124 : decode cX10_text 124 = .ok (.putfield 99, 3) := by decide +kernel
theorem dX10_text_127 : decode cX10_text 127 = .ok (.iconst 0, 1) := by decide +kernel
theorem dX10_text_128 : decode cX10_text 128 = .ok (.istore_n 3, 1) := by decide +kernel
theorem dX10_text_129 : decode cX10_text 129 = .ok (.iload_n 3, 1) := by decide +kernel
theorem dX10_text_130 : decode cX10_text 130 = .ok (.iconst 2, 1) := by decide +kernel
theorem dX10_text_131 : decode cX10_text 131 = .ok (.if_icmp .ge 16, 3) := by decide +kernel
theorem dX10_text_134 : decode cX10_text 134 = .ok (.aload_n 0, 1) := by decide +kernel
theorem dX10_text_135 : decode cX10_text 135 = .ok (.getfield 53, 3) := by decide +kernel
theorem dX10_text_138 : decode cX10_text 138 = .ok (.iload_n 3, 1) := by decide +kernel
theorem dX10_text_139 : decode cX10_text 139 = .ok (.iconst 0, 1) := by decide +kernel
theorem dX10_text_140 : decode cX10_text 140 = .ok (.bastore, 1) := by decide +kernel
theorem dX10_text_141 : decode cX10_text 141 = .ok (.iinc 3 1, 3) := by decide +kernel
theorem dX10_text_144 : decode cX10_text 144 = .ok (.goto (-15), 3) := by decide +kernel
theorem dX10_text_147 : decode cX10_text 147 = .ok (.aload_n 0, 1) := by decide +kernel
theorem dX10_text_148 : decode cX10_text 148 = .ok (.getfield 16, 3) := by decide +kernel
theorem dX10_text_151 : decode cX10_text 151 = .ok (.getfield 102, 3) := by decide +kernel
theorem dX10_text_154 : decode cX10_text 154 = .ok (.ireturn, 1) := by decide +kernel
theorem dX10_camera_0 : decode cX10_camera 0 = .ok (.iload_n 1, 1) := by decide +kernel
theorem dX10_camera_1 : decode cX10_camera 1 = .ok (.ifCond .lt 14, 3) := by decide +kernel
theorem dX10_camera_4 : decode cX10_camera 4 = .ok (.iload_n 1, 1) := by decide +kernel
theorem dX10_camera_5 : decode cX10_camera 5 = .ok (.aload_n 0, 1) := by decide +kernel
theorem dX10_camera_6 : decode cX10_camera 6 = .ok (.getfield 16, 3) := by decide +kernel
theorem dX10_camera_9 : decode cX10_camera 9 = .ok (.getfield 105, 3) := by decide +kernel
theorem dX10_camera_12 : decode cX10_camera 12 = .ok (.if_icmp .lt 5, 3) := by decide +kernel
theorem dX10_camera_15 : decode cX10_camera 15 = .ok (.iconst (-1), 1) := by decide +kernel
theorem dX10_camera_16 : decode cX10_camera 16 = .ok (.ireturn, 1) := by decide +kernel
theorem dX10_camera_17 : decode cX10_camera 17 = .ok (.iload_n 2, 1) := by decide +kernel
theorem dX10_camera_18 : decode cX10_camera 18 = .ok (.tableswitch 110 0 3 #[30, 40, 50, 80], 30) := by decide +kernel
theorem dX10_camera_48 : decode cX10_camera 48 = .ok (.aload_n 0, 1) := by decide +kernel
theorem dX10_camera_49 : decode cX10_camera 49 = .ok (.getfield 16, 3) := by decide +kernel
theorem dX10_camera_52 : decode cX10_camera 52 = .ok (.getfield 108, 3) := by decide +kernel
theorem dX10_camera_55 : decode cX10_camera 55 = .ok (.iload_n 1, 1) := by decide +kernel
theorem dX10_camera_56 : decode cX10_camera 56 = .ok (.iaload, 1) := by decide +kernel
theorem dX10_camera_57 : decode cX10_camera 57 = .ok (.ireturn, 1) := by decide +kernel
theorem dX10_camera_58 : decode cX10_camera 58 = .ok (.aload_n 0, 1) := by decide +kernel
theorem dX10_camera_59 : decode cX10_camera 59 = .ok (.getfield 16, 3) := by decide +kernel
theorem dX10_camera_62 : decode cX10_camera 62 = .ok (.getfield 111, 3) := by decide +kernel
theorem dX10_camera_65 : decode cX10_camera 65 = .ok (.iload_n 1, 1) := by decide +kernel
theorem dX10_camera_66 : decode cX10_camera 66 = .ok (.iaload, 1) := by decide +kernel
theorem dX10_camera_67 : decode cX10_camera 67 = .ok (.ireturn, 1) := by decide +kernel
theorem dX10_camera_68 : decode cX10_camera 68 = .ok (.aload_n 0, 1) := by decide +kernel
theorem dX10_camera_69 : decode cX10_camera 69 = .ok (.getfield 16, 3) := by decide +kernel
theorem dX10_camera_72 : decode cX10_camera 72 = .ok (.getfield 114, 3) := by decide +kernel
theorem dX10_camera_75 : decode cX10_camera 75 = .ok (.getfield 118, 3) := by decide +kernel
theorem dX10_camera_78 : decode cX10_camera 78 = .ok (.ifCond .eq 8, 3) := by decide +kernel
theorem dX10_camera_81 : decode cX10_camera 81 = .ok (.bipush (-2), 2) := by decide +kernel
theorem dX10_camera_83 : decode cX10_camera 83 = .ok (.goto 14, 3) := by decide +kernel
theorem dX10_camera_86 : decode cX10_camera 86 = .ok (.aload_n 0, 1) := by decide +kernel
theorem dX10_camera_87 : decode cX10_camera 87 = .ok (.getfield 16, 3) := by decide +kernel
theorem dX10_camera_90 : decode cX10_camera 90 = .ok (.getfield 114, 3) := by decide +kernel
theorem dX10_camera_93 : decode cX10_camera 93 = .ok (.iload_n 1, 1) := by decide +kernel
theorem dX10_camera_94 : decode cX10_camera 94 = .ok (.invokevirtual 124, 3) := by decide +kernel
theorem dX10_camera_97 : decode cX10_camera 97 = .ok (.ireturn, 1) := by decide +kernel
theorem dX10_camera_98 : decode cX10_camera 98 = .ok (.aload_n 0, 1) := by decide +kernel
theorem dX10_camera_99 : decode cX10_camera 99 = .ok (.getfield 16, 3) := by decide +kernel
theorem dX10_camera_102 : decode cX10_camera 102 = .ok (.getfield 114, 3) := by decide +kernel
theorem dX10_camera_105 : decode cX10_camera 105 = .ok (.getfield 118, 3) := by decide +kernel
theorem dX10_camera_108 : decode cX10_camera 108 = .ok (.ifCond .eq 8, 3) := by decide +kernel
theorem dX10_camera_111 : decode cX10_camera 111 = .ok (.bipush (-2), 2) := by decide +kernel
theorem dX10_camera_113 : decode cX10_camera 113 = .ok (.goto 14, 3) := by decide +kernel
theorem dX10_camera_116 : decode cX10_camera 116 = .ok (.aload_n 0, 1) := by decide +kernel
theorem dX10_camera_117 : decode cX10_camera 117 = .ok (.getfield 16, 3) := by decide +kernel
theorem dX10_camera_120 : decode cX10_camera 120 = .ok (.getfield 114, 3) := by decide +kernel
theorem dX10_camera_123 : decode cX10_camera 123 = .ok (.iload_n 1, 1) := by decide +kernel
theorem dX10_camera_124 : decode cX10_camera 124 = .ok (.invokevirtual 127, 3) := by decide +kernel
theorem dX10_camera_127 : decode cX10_camera 127 = .ok (.ireturn, 1) := by decide +kernel
theorem dX10_camera_128 : decode cX10_camera 128 = .ok (.iconst (-1), 1) := by decide +kernel
theorem dX10_camera_129 : decode cX10_camera 129 = .ok (.ireturn, 1) := by decide +kernel
theorem dX10_kind_0 : decode cX10_kind 0 = .ok (.iload_n 1, 1) := by decide +kernel
theorem dX10_kind_1 : decode cX10_kind 1 = .ok (.ifCond .lt 14, 3) := by decide +kernel
theorem dX10_kind_4 : decode cX10_kind 4 = .ok (.iload_n 1, 1) := by decide +kernel
theorem dX10_kind_5 : decode cX10_kind 5 = .ok (.aload_n 0, 1) := by decide +kernel
theorem dX10_kind_6 : decode cX10_kind 6 = .ok (.getfield 16, 3) := by decide +kernel
theorem dX10_kind_9 : decode cX10_kind 9 = .ok (.getfield 129, 3) := by decide +kernel
theorem dX10_kind_12 : decode cX10_kind 12 = .ok (.if_icmp .lt 5, 3) := by decide +kernel
theorem dX10_kind_15 : decode cX10_kind 15 = .ok (.iconst (-1), 1) := by decide +kernel
theorem dX10_kind_16 : decode cX10_kind 16 = .ok (.ireturn, 1) := by decide +kernel
theorem dX10_kind_17 : decode cX10_kind 17 = .ok (.aload_n 0, 1) := by decide +kernel
theorem dX10_kind_18 : decode cX10_kind 18 = .ok (.getfield 16, 3) := by decide +kernel
theorem dX10_kind_21 : decode cX10_kind 21 = .ok (.getfield 132, 3) := by decide +kernel
theorem dX10_kind_24 : decode cX10_kind 24 = .ok (.iload_n 1, 1) := by decide +kernel
theorem dX10_kind_25 : decode cX10_kind 25 = .ok (.aaload, 1) := by decide +kernel
theorem dX10_kind_26 : decode cX10_kind 26 = .ok (.astore_n 3, 1) := by decide +kernel
theorem dX10_kind_27 : decode cX10_kind 27 = .ok (.iload_n 2, 1) := by decide +kernel
theorem dX10_kind_28 : decode cX10_kind 28 = .ok (.tableswitch 68 0 3 #[32, 37, 50, 63], 32) := by decide +kernel
theorem dX10_kind_60 : decode cX10_kind 60 = .ok (.aload_n 3, 1) := by decide +kernel
theorem dX10_kind_61 : decode cX10_kind 61 = .ok (.getfield 136, 3) := by decide +kernel
theorem dX10_kind_64 : decode cX10_kind 64 = .ok (.ireturn, 1) := by decide +kernel
theorem dX10_kind_65 : decode cX10_kind 65 = .ok (.aload_n 3, 1) := by decide +kernel
theorem dX10_kind_66 : decode cX10_kind 66 = .ok (.getfield 141, 3) := by decide +kernel
theorem dX10_kind_69 : decode cX10_kind 69 = .ok (.ifCond .eq 7, 3) := by decide +kernel
theorem dX10_kind_72 : decode cX10_kind 72 = .ok (.iconst 1, 1) := by decide +kernel
theorem dX10_kind_73 : decode cX10_kind 73 = .ok (.goto 4, 3) := by decide +kernel
theorem dX10_kind_76 : decode cX10_kind 76 = .ok (.iconst 0, 1) := by decide +kernel
theorem dX10_kind_77 : decode cX10_kind 77 = .ok (.ireturn, 1) := by decide +kernel
theorem dX10_kind_78 : decode cX10_kind 78 = .ok (.aload_n 3, 1) := by decide +kernel
theorem dX10_kind_79 : decode cX10_kind 79 = .ok (.getfield 144, 3) := by decide +kernel
theorem dX10_kind_82 : decode cX10_kind 82 = .ok (.ifCond .eq 7, 3) := by decide +kernel
theorem dX10_kind_85 : decode cX10_kind 85 = .ok (.iconst 1, 1) := by decide +kernel
theorem dX10_kind_86 : decode cX10_kind 86 = .ok (.goto 4, 3) := by decide +kernel
theorem dX10_kind_89 : decode cX10_kind 89 = .ok (.iconst 0, 1) := by decide +kernel
theorem dX10_kind_90 : decode cX10_kind 90 = .ok (.ireturn, 1) := by decide +kernel
theorem dX10_kind_91 : decode cX10_kind 91 = .ok (.aload_n 3, 1) := by decide +kernel
theorem dX10_kind_92 : decode cX10_kind 92 = .ok (.getfield 147, 3) := by decide +kernel
theorem dX10_kind_95 : decode cX10_kind 95 = .ok (.ireturn, 1) := by decide +kernel
theorem dX10_kind_96 : decode cX10_kind 96 = .ok (.iconst (-1), 1) := by decide +kernel
theorem dX10_kind_97 : decode cX10_kind 97 = .ok (.ireturn, 1) := by decide +kernel
theorem dX10_side_0 : decode cX10_side 0 = .ok (.aload_n 0, 1) := by decide +kernel
theorem dX10_side_1 : decode cX10_side 1 = .ok (.iload_n 1, 1) := by decide +kernel
theorem dX10_side_2 : decode cX10_side 2 = .ok (.invokevirtual 150, 3) := by decide +kernel
theorem dX10_side_5 : decode cX10_side 5 = .ok (.ifCond .ne 5, 3) := by decide +kernel
theorem dX10_side_8 : decode cX10_side 8 = .ok (.iconst (-1), 1) := by decide +kernel
theorem dX10_side_9 : decode cX10_side 9 = .ok (.ireturn, 1) := by decide +kernel
theorem dX10_side_10 : decode cX10_side 10 = .ok (.iload_n 2, 1) := by decide +kernel
theorem dX10_side_11 : decode cX10_side 11 = .ok (.tableswitch 65 0 3 #[29, 39, 49, 59], 29) := by decide +kernel
theorem dX10_side_40 : decode cX10_side 40 = .ok (.aload_n 0, 1) := by decide +kernel
theorem dX10_side_41 : decode cX10_side 41 = .ok (.getfield 16, 3) := by decide +kernel
theorem dX10_side_44 : decode cX10_side 44 = .ok (.getfield 154, 3) := by decide +kernel
theorem dX10_side_47 : decode cX10_side 47 = .ok (.iload_n 1, 1) := by decide +kernel
theorem dX10_side_48 : decode cX10_side 48 = .ok (.iaload, 1) := by decide +kernel
theorem dX10_side_49 : decode cX10_side 49 = .ok (.ireturn, 1) := by decide +kernel
theorem dX10_side_50 : decode cX10_side 50 = .ok (.aload_n 0, 1) := by decide +kernel
theorem dX10_side_51 : decode cX10_side 51 = .ok (.getfield 42, 3) := by decide +kernel
theorem dX10_side_54 : decode cX10_side 54 = .ok (.getfield 157, 3) := by decide +kernel
theorem dX10_side_57 : decode cX10_side 57 = .ok (.iload_n 1, 1) := by decide +kernel
theorem dX10_side_58 : decode cX10_side 58 = .ok (.iaload, 1) := by decide +kernel
theorem dX10_side_59 : decode cX10_side 59 = .ok (.ireturn, 1) := by decide +kernel
theorem dX10_side_60 : decode cX10_side 60 = .ok (.aload_n 0, 1) := by decide +kernel
theorem dX10_side_61 : decode cX10_side 61 = .ok (.getfield 42, 3) := by decide +kernel
theorem dX10_side_64 : decode cX10_side 64 = .ok (.getfield 160, 3) := by decide +kernel
theorem dX10_side_67 : decode cX10_side 67 = .ok (.iload_n 1, 1) := by decide +kernel
theorem dX10_side_68 : decode cX10_side 68 = .ok (.iaload, 1) := by decide +kernel
theorem dX10_side_69 : decode cX10_side 69 = .ok (.ireturn, 1) := by decide +kernel
theorem dX10_side_70 : decode cX10_side 70 = .ok (.aload_n 0, 1) := by decide +kernel
theorem dX10_side_71 : decode cX10_side 71 = .ok (.iload_n 1, 1) := by decide +kernel
theorem dX10_side_72 : decode cX10_side 72 = .ok (.invokevirtual 163, 3) := by decide +kernel
theorem dX10_side_75 : decode cX10_side 75 = .ok (.ireturn, 1) := by decide +kernel
theorem dX10_side_76 : decode cX10_side 76 = .ok (.iconst (-1), 1) := by decide +kernel
theorem dX10_side_77 : decode cX10_side 77 = .ok (.ireturn, 1) := by decide +kernel
theorem dX10_pointsNow_0 : decode cX10_pointsNow 0 = .ok (.iconst 0, 1) := by decide +kernel
theorem dX10_pointsNow_1 : decode cX10_pointsNow 1 = .ok (.istore_n 2, 1) := by decide +kernel
theorem dX10_pointsNow_2 : decode cX10_pointsNow 2 = .ok (.iconst 0, 1) := by decide +kernel
theorem dX10_pointsNow_3 : decode cX10_pointsNow 3 = .ok (.istore_n 3, 1) := by decide +kernel
theorem dX10_pointsNow_4 : decode cX10_pointsNow 4 = .ok (.iload_n 3, 1) := by decide +kernel
theorem dX10_pointsNow_5 : decode cX10_pointsNow 5 = .ok (.aload_n 0, 1) := by decide +kernel
theorem dX10_pointsNow_6 : decode cX10_pointsNow 6 = .ok (.getfield 42, 3) := by decide +kernel
theorem dX10_pointsNow_9 : decode cX10_pointsNow 9 = .ok (.getfield 166, 3) := by decide +kernel
theorem dX10_pointsNow_12 : decode cX10_pointsNow 12 = .ok (.if_icmp .ge 52, 3) := by decide +kernel
theorem dX10_pointsNow_15 : decode cX10_pointsNow 15 = .ok (.aload_n 0, 1) := by decide +kernel
theorem dX10_pointsNow_16 : decode cX10_pointsNow 16 = .ok (.getfield 16, 3) := by decide +kernel
theorem dX10_pointsNow_19 : decode cX10_pointsNow 19 = .ok (.getfield 169, 3) := by decide +kernel
theorem dX10_pointsNow_22 : decode cX10_pointsNow 22 = .ok (.iload_n 3, 1) := by decide +kernel
theorem dX10_pointsNow_23 : decode cX10_pointsNow 23 = .ok (.aaload, 1) := by decide +kernel
theorem dX10_pointsNow_24 : decode cX10_pointsNow 24 = .ok (.getfield 173, 3) := by decide +kernel
theorem dX10_pointsNow_27 : decode cX10_pointsNow 27 = .ok (.iload_n 1, 1) := by decide +kernel
theorem dX10_pointsNow_28 : decode cX10_pointsNow 28 = .ok (.if_icmp .ne 30, 3) := by decide +kernel
theorem dX10_pointsNow_31 : decode cX10_pointsNow 31 = .ok (.aload_n 0, 1) := by decide +kernel
theorem dX10_pointsNow_32 : decode cX10_pointsNow 32 = .ok (.getfield 42, 3) := by decide +kernel
theorem dX10_pointsNow_35 : decode cX10_pointsNow 35 = .ok (.iload_n 3, 1) := by decide +kernel
theorem dX10_pointsNow_36 : decode cX10_pointsNow 36 = .ok (.invokevirtual 178, 3) := by decide +kernel
theorem dX10_pointsNow_39 : decode cX10_pointsNow 39 = .ok (.iconst 1, 1) := by decide +kernel
theorem dX10_pointsNow_40 : decode cX10_pointsNow 40 = .ok (.if_icmp .ne 18, 3) := by decide +kernel
theorem dX10_pointsNow_43 : decode cX10_pointsNow 43 = .ok (.iload_n 2, 1) := by decide +kernel
theorem dX10_pointsNow_44 : decode cX10_pointsNow 44 = .ok (.aload_n 0, 1) := by decide +kernel
theorem dX10_pointsNow_45 : decode cX10_pointsNow 45 = .ok (.getfield 16, 3) := by decide +kernel
theorem dX10_pointsNow_48 : decode cX10_pointsNow 48 = .ok (.getfield 169, 3) := by decide +kernel
theorem dX10_pointsNow_51 : decode cX10_pointsNow 51 = .ok (.iload_n 3, 1) := by decide +kernel
theorem dX10_pointsNow_52 : decode cX10_pointsNow 52 = .ok (.aaload, 1) := by decide +kernel
theorem dX10_pointsNow_53 : decode cX10_pointsNow 53 = .ok (.getfield 181, 3) := by decide +kernel
theorem dX10_pointsNow_56 : decode cX10_pointsNow 56 = .ok (.iadd, 1) := by decide +kernel
theorem dX10_pointsNow_57 : decode cX10_pointsNow 57 = .ok (.istore_n 2, 1) := by decide +kernel
theorem dX10_pointsNow_58 : decode cX10_pointsNow 58 = .ok (.iinc 3 1, 3) := by decide +kernel
theorem dX10_pointsNow_61 : decode cX10_pointsNow 61 = .ok (.goto (-57), 3) := by decide +kernel
theorem dX10_pointsNow_64 : decode cX10_pointsNow 64 = .ok (.iload_n 2, 1) := by decide +kernel
theorem dX10_pointsNow_65 : decode cX10_pointsNow 65 = .ok (.ireturn, 1) := by decide +kernel
theorem dX10_play_0 : decode cX10_play 0 = .ok (.aload_n 0, 1) := by decide +kernel
theorem dX10_play_1 : decode cX10_play 1 = .ok (.iload_n 1, 1) := by decide +kernel
theorem dX10_play_2 : decode cX10_play 2 = .ok (.invokevirtual 184, 3) := by decide +kernel
theorem dX10_play_5 : decode cX10_play 5 = .ok (.ifCond .ne 5, 3) := by decide +kernel
theorem dX10_play_8 : decode cX10_play 8 = .ok (.iconst (-1), 1) := by decide +kernel
theorem dX10_play_9 : decode cX10_play 9 = .ok (.ireturn, 1) := by decide +kernel
theorem dX10_play_10 : decode cX10_play 10 = .ok (.aload_n 0, 1) := by decide +kernel
theorem dX10_play_11 : decode cX10_play 11 = .ok (.getfield 16, 3) := by decide +kernel
theorem dX10_play_14 : decode cX10_play 14 = .ok (.getfield 169, 3) := by decide +kernel
theorem dX10_play_17 : decode cX10_play 17 = .ok (.iload_n 1, 1) := by decide +kernel
theorem dX10_play_18 : decode cX10_play 18 = .ok (.aaload, 1) := by decide +kernel
theorem dX10_play_19 : decode cX10_play 19 = .ok (.astore_n 3, 1) := by decide +kernel
theorem dX10_play_20 : decode cX10_play 20 = .ok (.iload_n 2, 1) := by decide +kernel
theorem dX10_play_21 : decode cX10_play 21 = .ok (.tableswitch 140 0 8 #[51, 56, 61, 66, 71, 76, 81, 106, 123], 51) := by decide +kernel
theorem dX10_play_72 : decode cX10_play 72 = .ok (.aload_n 3, 1) := by decide +kernel
theorem dX10_play_73 : decode cX10_play 73 = .ok (.getfield 187, 3) := by decide +kernel
theorem dX10_play_76 : decode cX10_play 76 = .ok (.ireturn, 1) := by decide +kernel
theorem dX10_play_77 : decode cX10_play 77 = .ok (.aload_n 3, 1) := by decide +kernel
theorem dX10_play_78 : decode cX10_play 78 = .ok (.getfield 190, 3) := by decide +kernel
theorem dX10_play_81 : decode cX10_play 81 = .ok (.ireturn, 1) := by decide +kernel
theorem dX10_play_82 : decode cX10_play 82 = .ok (.aload_n 3, 1) := by decide +kernel
theorem dX10_play_83 : decode cX10_play 83 = .ok (.getfield 173, 3) := by decide +kernel
theorem dX10_play_86 : decode cX10_play 86 = .ok (.ireturn, 1) := by decide +kernel
theorem dX10_play_87 : decode cX10_play 87 = .ok (.aload_n 3, 1) := by decide +kernel
theorem dX10_play_88 : decode cX10_play 88 = .ok (.getfield 181, 3) := by decide +kernel
theorem dX10_play_91 : decode cX10_play 91 = .ok (.ireturn, 1) := by decide +kernel
theorem dX10_play_92 : decode cX10_play 92 = .ok (.aload_n 3, 1) := by decide +kernel
theorem dX10_play_93 : decode cX10_play 93 = .ok (.getfield 192, 3) := by decide +kernel
theorem dX10_play_96 : decode cX10_play 96 = .ok (.ireturn, 1) := by decide +kernel
theorem dX10_play_97 : decode cX10_play 97 = .ok (.aload_n 3, 1) := by decide +kernel
theorem dX10_play_98 : decode cX10_play 98 = .ok (.getfield 194, 3) := by decide +kernel
theorem dX10_play_101 : decode cX10_play 101 = .ok (.ireturn, 1) := by decide +kernel
theorem dX10_play_102 : decode cX10_play 102 = .ok (.iload_n 1, 1) := by decide +kernel
theorem dX10_play_103 : decode cX10_play 103 = .ok (.aload_n 0, 1) := by decide +kernel
theorem dX10_play_104 : decode cX10_play 104 = .ok (.getfield 42, 3) := by decide +kernel
theorem dX10_play_107 : decode cX10_play 107 = .ok (.getfield 166, 3) := by decide +kernel
theorem dX10_play_110 : decode cX10_play 110 = .ok (.if_icmp .ge 14, 3) := by decide +kernel
theorem dX10_play_113 : decode cX10_play 113 = .ok (.aload_n 0, 1) := by decide +kernel
theorem dX10_play_114 : decode cX10_play 114 = .ok (.getfield 42, 3) := by decide +kernel
theorem dX10_play_117 : decode cX10_play 117 = .ok (.iload_n 1, 1) := by decide +kernel
theorem dX10_play_118 : decode cX10_play 118 = .ok (.invokevirtual 178, 3) := by decide +kernel
theorem dX10_play_121 : decode cX10_play 121 = .ok (.goto 5, 3) := by decide +kernel
theorem dX10_play_124 : decode cX10_play 124 = .ok (.bipush (-2), 2) := by decide +kernel
theorem dX10_play_126 : decode cX10_play 126 = .ok (.ireturn, 1) := by decide +kernel
theorem dX10_play_127 : decode cX10_play 127 = .ok (.aload_n 0, 1) := by decide +kernel
theorem dX10_play_128 : decode cX10_play 128 = .ok (.getfield 42, 3) := by decide +kernel
theorem dX10_play_131 : decode cX10_play 131 = .ok (.iload_n 1, 1) := by decide +kernel
theorem dX10_play_132 : decode cX10_play 132 = .ok (.invokevirtual 197, 3) := by decide +kernel
theorem dX10_play_135 : decode cX10_play 135 = .ok (.ifCond .eq 7, 3) := by decide +kernel
theorem dX10_play_138 : decode cX10_play 138 = .ok (.iconst 1, 1) := by decide +kernel
theorem dX10_play_139 : decode cX10_play 139 = .ok (.goto 4, 3) := by decide +kernel
theorem dX10_play_142 : decode cX10_play 142 = .ok (.iconst 0, 1) := by decide +kernel
theorem dX10_play_143 : decode cX10_play 143 = .ok (.ireturn, 1) := by decide +kernel
theorem dX10_play_144 : decode cX10_play 144 = .ok (.aload_n 0, 1) := by decide +kernel
theorem dX10_play_145 : decode cX10_play 145 = .ok (.getfield 42, 3) := by decide +kernel
theorem dX10_play_148 : decode cX10_play 148 = .ok (.iload_n 1, 1) := by decide +kernel
theorem dX10_play_149 : decode cX10_play 149 = .ok (.invokevirtual 200, 3) := by decide +kernel
theorem dX10_play_152 : decode cX10_play 152 = .ok (.ifCond .eq 7, 3) := by decide +kernel
theorem dX10_play_155 : decode cX10_play 155 = .ok (.iconst 1, 1) := by decide +kernel
theorem dX10_play_156 : decode cX10_play 156 = .ok (.goto 4, 3) := by decide +kernel
theorem dX10_play_159 : decode cX10_play 159 = .ok (.iconst 0, 1) := by decide +kernel
theorem dX10_play_160 : decode cX10_play 160 = .ok (.ireturn, 1) := by decide +kernel
theorem dX10_play_161 : decode cX10_play 161 = .ok (.iconst (-1), 1) := by decide +kernel
theorem dX10_play_162 : decode cX10_play 162 = .ok (.ireturn, 1) := by decide +kernel
theorem dX10_frame_0 : decode cX10_frame 0 = .ok (.aload_n 0, 1) := by decide +kernel
theorem dX10_frame_1 : decode cX10_frame 1 = .ok (.iload_n 1, 1) := by decide +kernel
theorem dX10_frame_2 : decode cX10_frame 2 = .ok (.invokevirtual 184, 3) := by decide +kernel
theorem dX10_frame_5 : decode cX10_frame 5 = .ok (.ifCond .eq 32, 3) := by decide +kernel
theorem dX10_frame_8 : decode cX10_frame 8 = .ok (.iload_n 2, 1) := by decide +kernel
theorem dX10_frame_9 : decode cX10_frame 9 = .ok (.ifCond .lt 28, 3) := by decide +kernel
theorem dX10_frame_12 : decode cX10_frame 12 = .ok (.iload_n 2, 1) := by decide +kernel
theorem dX10_frame_13 : decode cX10_frame 13 = .ok (.aload_n 0, 1) := by decide +kernel
theorem dX10_frame_14 : decode cX10_frame 14 = .ok (.getfield 16, 3) := by decide +kernel
theorem dX10_frame_17 : decode cX10_frame 17 = .ok (.getfield 169, 3) := by decide +kernel
theorem dX10_frame_20 : decode cX10_frame 20 = .ok (.iload_n 1, 1) := by decide +kernel
theorem dX10_frame_21 : decode cX10_frame 21 = .ok (.aaload, 1) := by decide +kernel
theorem dX10_frame_22 : decode cX10_frame 22 = .ok (.getfield 194, 3) := by decide +kernel
theorem dX10_frame_25 : decode cX10_frame 25 = .ok (.if_icmp .ge 12, 3) := by decide +kernel
theorem dX10_frame_28 : decode cX10_frame 28 = .ok (.iload_n 3, 1) := by decide +kernel
theorem dX10_frame_29 : decode cX10_frame 29 = .ok (.ifCond .lt 8, 3) := by decide +kernel
theorem dX10_frame_32 : decode cX10_frame 32 = .ok (.iload_n 3, 1) := by decide +kernel
theorem dX10_frame_33 : decode cX10_frame 33 = .ok (.iconst 3, 1) := by decide +kernel
theorem dX10_frame_34 : decode cX10_frame 34 = .ok (.if_icmp .le 13, 3) := by decide +kernel
theorem dX10_frame_37 : decode cX10_frame 37 = .ok (.new 203, 3) := by decide +kernel
theorem dX10_frame_40 : decode cX10_frame 40 = .ok (.dup, 1) := by decide +kernel
theorem dX10_frame_41 : decode cX10_frame 41 = .ok (.ldc 205, 2) := by decide +kernel
theorem dX10_frame_43 : decode cX10_frame 43 = .ok (.invokespecial 207, 3) := by decide +kernel
theorem dX10_frame_46 : decode cX10_frame 46 = .ok (.athrow, 1) := by decide +kernel
theorem dX10_frame_47 : decode cX10_frame 47 = .ok (.aload_n 0, 1) := by decide +kernel
theorem dX10_frame_48 : decode cX10_frame 48 = .ok (.getfield 16, 3) := by decide +kernel
theorem dX10_frame_51 : decode cX10_frame 51 = .ok (.getfield 169, 3) := by decide +kernel
theorem dX10_frame_54 : decode cX10_frame 54 = .ok (.iload_n 1, 1) := by decide +kernel
theorem dX10_frame_55 : decode cX10_frame 55 = .ok (.aaload, 1) := by decide +kernel
theorem dX10_frame_56 : decode cX10_frame 56 = .ok (.astore 4, 2) := by decide +kernel
theorem dX10_frame_58 : decode cX10_frame 58 = .ok (.iload_n 3, 1) := by decide +kernel
theorem dX10_frame_59 : decode cX10_frame 59 = .ok (.ifCond .ne 11, 3) := by decide +kernel
theorem dX10_frame_62 : decode cX10_frame 62 = .ok (.aload 4, 2) := by decide +kernel
theorem dX10_frame_64 : decode cX10_frame 64 = .ok (.getfield 210, 3) := by decide +kernel
theorem dX10_frame_67 : decode cX10_frame 67 = .ok (.iload_n 2, 1) := by decide +kernel
theorem dX10_frame_68 : decode cX10_frame 68 = .ok (.iaload, 1) := by decide +kernel
theorem dX10_frame_69 : decode cX10_frame 69 = .ok (.ireturn, 1) := by decide +kernel
theorem dX10_frame_70 : decode cX10_frame 70 = .ok (.iload_n 3, 1) := by decide +kernel
theorem dX10_frame_71 : decode cX10_frame 71 = .ok (.iconst 1, 1) := by decide +kernel
theorem dX10_frame_72 : decode cX10_frame 72 = .ok (.if_icmp .ne 11, 3) := by decide +kernel
theorem dX10_frame_75 : decode cX10_frame 75 = .ok (.aload 4, 2) := by decide +kernel
theorem dX10_frame_77 : decode cX10_frame 77 = .ok (.getfield 213, 3) := by decide +kernel
theorem dX10_frame_80 : decode cX10_frame 80 = .ok (.iload_n 2, 1) := by decide +kernel
theorem dX10_frame_81 : decode cX10_frame 81 = .ok (.iaload, 1) := by decide +kernel
theorem dX10_frame_82 : decode cX10_frame 82 = .ok (.ireturn, 1) := by decide +kernel
theorem dX10_frame_83 : decode cX10_frame 83 = .ok (.iload_n 3, 1) := by decide +kernel
theorem dX10_frame_84 : decode cX10_frame 84 = .ok (.iconst 2, 1) := by decide +kernel
theorem dX10_frame_85 : decode cX10_frame 85 = .ok (.if_icmp .ne 13, 3) := by decide +kernel
theorem dX10_frame_88 : decode cX10_frame 88 = .ok (.aload 4, 2) := by decide +kernel
theorem dX10_frame_90 : decode cX10_frame 90 = .ok (.getfield 216, 3) := by decide +kernel
theorem dX10_frame_93 : decode cX10_frame 93 = .ok (.iload_n 2, 1) := by decide +kernel
theorem dX10_frame_94 : decode cX10_frame 94 = .ok (.iaload, 1) := by decide +kernel
theorem dX10_frame_95 : decode cX10_frame 95 = .ok (.goto 10, 3) := by decide +kernel
theorem dX10_frame_98 : decode cX10_frame 98 = .ok (.aload 4, 2) := by decide +kernel
theorem dX10_frame_100 : decode cX10_frame 100 = .ok (.getfield 219, 3) := by decide +kernel
theorem dX10_frame_103 : decode cX10_frame 103 = .ok (.iload_n 2, 1) := by decide +kernel
theorem dX10_frame_104 : decode cX10_frame 104 = .ok (.iaload, 1) := by decide +kernel
theorem dX10_frame_105 : decode cX10_frame 105 = .ok (.ireturn, 1) := by decide +kernel
theorem dX10_isSide_0 : decode cX10_isSide 0 = .ok (.iload_n 1, 1) := by decide +kernel
theorem dX10_isSide_1 : decode cX10_isSide 1 = .ok (.ifCond .lt 18, 3) := by decide +kernel
theorem dX10_isSide_4 : decode cX10_isSide 4 = .ok (.iload_n 1, 1) := by decide +kernel
theorem dX10_isSide_5 : decode cX10_isSide 5 = .ok (.aload_n 0, 1) := by decide +kernel
theorem dX10_isSide_6 : decode cX10_isSide 6 = .ok (.getfield 16, 3) := by decide +kernel
theorem dX10_isSide_9 : decode cX10_isSide 9 = .ok (.getfield 222, 3) := by decide +kernel
theorem dX10_isSide_12 : decode cX10_isSide 12 = .ok (.if_icmp .ge 7, 3) := by decide +kernel
theorem dX10_isSide_15 : decode cX10_isSide 15 = .ok (.iconst 1, 1) := by decide +kernel
theorem dX10_isSide_16 : decode cX10_isSide 16 = .ok (.goto 4, 3) := by decide +kernel
theorem dX10_isSide_19 : decode cX10_isSide 19 = .ok (.iconst 0, 1) := by decide +kernel
theorem dX10_isSide_20 : decode cX10_isSide 20 = .ok (.ireturn, 1) := by decide +kernel
theorem dX10_isPlay_0 : decode cX10_isPlay 0 = .ok (.iload_n 1, 1) := by decide +kernel
theorem dX10_isPlay_1 : decode cX10_isPlay 1 = .ok (.ifCond .lt 18, 3) := by decide +kernel
theorem dX10_isPlay_4 : decode cX10_isPlay 4 = .ok (.iload_n 1, 1) := by decide +kernel
theorem dX10_isPlay_5 : decode cX10_isPlay 5 = .ok (.aload_n 0, 1) := by decide +kernel
theorem dX10_isPlay_6 : decode cX10_isPlay 6 = .ok (.getfield 16, 3) := by decide +kernel
theorem dX10_isPlay_9 : decode cX10_isPlay 9 = .ok (.getfield 102, 3) := by decide +kernel
theorem dX10_isPlay_12 : decode cX10_isPlay 12 = .ok (.if_icmp .ge 7, 3) := by decide +kernel
theorem dX10_isPlay_15 : decode cX10_isPlay 15 = .ok (.iconst 1, 1) := by decide +kernel
theorem dX10_isPlay_16 : decode cX10_isPlay 16 = .ok (.goto 4, 3) := by decide +kernel
theorem dX10_isPlay_19 : decode cX10_isPlay 19 = .ok (.iconst 0, 1) := by decide +kernel
theorem dX10_isPlay_20 : decode cX10_isPlay 20 = .ok (.ireturn, 1) := by decide +kernel
theorem dX10_isBoard_0 : decode cX10_isBoard 0 = .ok (.iload_n 1, 1) := by decide +kernel
theorem dX10_isBoard_1 : decode cX10_isBoard 1 = .ok (.ifCond .lt 18, 3) := by decide +kernel
theorem dX10_isBoard_4 : decode cX10_isBoard 4 = .ok (.iload_n 1, 1) := by decide +kernel
theorem dX10_isBoard_5 : decode cX10_isBoard 5 = .ok (.aload_n 0, 1) := by decide +kernel
theorem dX10_isBoard_6 : decode cX10_isBoard 6 = .ok (.getfield 16, 3) := by decide +kernel
theorem dX10_isBoard_9 : decode cX10_isBoard 9 = .ok (.getfield 225, 3) := by decide +kernel
theorem dX10_isBoard_12 : decode cX10_isBoard 12 = .ok (.if_icmp .ge 7, 3) := by decide +kernel
theorem dX10_isBoard_15 : decode cX10_isBoard 15 = .ok (.iconst 1, 1) := by decide +kernel
theorem dX10_isBoard_16 : decode cX10_isBoard 16 = .ok (.goto 4, 3) := by decide +kernel
theorem dX10_isBoard_19 : decode cX10_isBoard 19 = .ok (.iconst 0, 1) := by decide +kernel
theorem dX10_isBoard_20 : decode cX10_isBoard 20 = .ok (.ireturn, 1) := by decide +kernel
theorem dX10_verdict_0 : decode cX10_verdict 0 = .ok (.aload_n 0, 1) := by decide +kernel
theorem dX10_verdict_1 : decode cX10_verdict 1 = .ok (.iload_n 1, 1) := by decide +kernel
theorem dX10_verdict_2 : decode cX10_verdict 2 = .ok (.invokevirtual 184, 3) := by decide +kernel
theorem dX10_verdict_5 : decode cX10_verdict 5 = .ok (.ifCond .eq 23, 3) := by decide +kernel
theorem dX10_verdict_8 : decode cX10_verdict 8 = .ok (.iload_n 2, 1) := by decide +kernel
theorem dX10_verdict_9 : decode cX10_verdict 9 = .ok (.ifCond .lt 19, 3) := by decide +kernel
theorem dX10_verdict_12 : decode cX10_verdict 12 = .ok (.iload_n 2, 1) := by decide +kernel
theorem dX10_verdict_13 : decode cX10_verdict 13 = .ok (.aload_n 0, 1) := by decide +kernel
theorem dX10_verdict_14 : decode cX10_verdict 14 = .ok (.getfield 16, 3) := by decide +kernel
theorem dX10_verdict_17 : decode cX10_verdict 17 = .ok (.getfield 169, 3) := by decide +kernel
theorem dX10_verdict_20 : decode cX10_verdict 20 = .ok (.iload_n 1, 1) := by decide +kernel
theorem dX10_verdict_21 : decode cX10_verdict 21 = .ok (.aaload, 1) := by decide +kernel
theorem dX10_verdict_22 : decode cX10_verdict 22 = .ok (.getfield 194, 3) := by decide +kernel
theorem dX10_verdict_25 : decode cX10_verdict 25 = .ok (.if_icmp .le 5, 3) := by decide +kernel
theorem dX10_verdict_28 : decode cX10_verdict 28 = .ok (.iconst (-1), 1) := by decide +kernel
theorem dX10_verdict_29 : decode cX10_verdict 29 = .ok (.ireturn, 1) := by decide +kernel
theorem dX10_verdict_30 : decode cX10_verdict 30 = .ok (.aload_n 0, 1) := by decide +kernel
theorem dX10_verdict_31 : decode cX10_verdict 31 = .ok (.getfield 35, 3) := by decide +kernel
theorem dX10_verdict_34 : decode cX10_verdict 34 = .ok (.aload_n 0, 1) := by decide +kernel
theorem dX10_verdict_35 : decode cX10_verdict 35 = .ok (.getfield 16, 3) := by decide +kernel
theorem dX10_verdict_38 : decode cX10_verdict 38 = .ok (.aload_n 0, 1) := by decide +kernel
theorem dX10_verdict_39 : decode cX10_verdict 39 = .ok (.getfield 16, 3) := by decide +kernel
theorem dX10_verdict_42 : decode cX10_verdict 42 = .ok (.getfield 169, 3) := by decide +kernel
theorem dX10_verdict_45 : decode cX10_verdict 45 = .ok (.iload_n 1, 1) := by decide +kernel
theorem dX10_verdict_46 : decode cX10_verdict 46 = .ok (.aaload, 1) := by decide +kernel
theorem dX10_verdict_47 : decode cX10_verdict 47 = .ok (.iconst 1, 1) := by decide +kernel
theorem dX10_verdict_48 : decode cX10_verdict 48 = .ok (.iload_n 2, 1) := by decide +kernel
theorem dX10_verdict_49 : decode cX10_verdict 49 = .ok (.ishl, 1) := by decide +kernel
theorem dX10_verdict_50 : decode cX10_verdict 50 = .ok (.iconst 1, 1) := by decide +kernel
theorem dX10_verdict_51 : decode cX10_verdict 51 = .ok (.isub, 1) := by decide +kernel
theorem dX10_verdict_52 : decode cX10_verdict 52 = .ok (.invokevirtual 228, 3) := by decide +kernel
theorem dX10_verdict_55 : decode cX10_verdict 55 = .ok (.ireturn, 1) := by decide +kernel
theorem dX10_by_0 : decode cX10_by 0 = .ok (.aload_n 0, 1) := by decide +kernel
theorem dX10_by_1 : decode cX10_by 1 = .ok (.iload_n 1, 1) := by decide +kernel
theorem dX10_by_2 : decode cX10_by 2 = .ok (.invokevirtual 184, 3) := by decide +kernel
theorem dX10_by_5 : decode cX10_by 5 = .ok (.ifCond .eq 17, 3) := by decide +kernel
theorem dX10_by_8 : decode cX10_by 8 = .ok (.iload_n 2, 1) := by decide +kernel
theorem dX10_by_9 : decode cX10_by 9 = .ok (.aload_n 0, 1) := by decide +kernel
theorem dX10_by_10 : decode cX10_by 10 = .ok (.getfield 16, 3) := by decide +kernel
theorem dX10_by_13 : decode cX10_by 13 = .ok (.invokevirtual 232, 3) := by decide +kernel
theorem dX10_by_16 : decode cX10_by 16 = .ok (.iconst (-1), 1) := by decide +kernel
theorem dX10_by_17 : decode cX10_by 17 = .ok (.ixor, 1) := by decide +kernel
theorem dX10_by_18 : decode cX10_by 18 = .ok (.iand, 1) := by decide +kernel
theorem dX10_by_19 : decode cX10_by 19 = .ok (.ifCond .eq 5, 3) := by decide +kernel
theorem dX10_by_22 : decode cX10_by 22 = .ok (.iconst (-1), 1) := by decide +kernel
theorem dX10_by_23 : decode cX10_by 23 = .ok (.ireturn, 1) := by decide +kernel
theorem dX10_by_24 : decode cX10_by 24 = .ok (.aload_n 0, 1) := by decide +kernel
theorem dX10_by_25 : decode cX10_by 25 = .ok (.getfield 35, 3) := by decide +kernel
theorem dX10_by_28 : decode cX10_by 28 = .ok (.aload_n 0, 1) := by decide +kernel
theorem dX10_by_29 : decode cX10_by 29 = .ok (.getfield 16, 3) := by decide +kernel
theorem dX10_by_32 : decode cX10_by 32 = .ok (.aload_n 0, 1) := by decide +kernel
theorem dX10_by_33 : decode cX10_by 33 = .ok (.getfield 16, 3) := by decide +kernel
theorem dX10_by_36 : decode cX10_by 36 = .ok (.getfield 169, 3) := by decide +kernel
theorem dX10_by_39 : decode cX10_by 39 = .ok (.iload_n 1, 1) := by decide +kernel
theorem dX10_by_40 : decode cX10_by 40 = .ok (.aaload, 1) := by decide +kernel
theorem dX10_by_41 : decode cX10_by 41 = .ok (.aload_n 0, 1) := by decide +kernel
theorem dX10_by_42 : decode cX10_by 42 = .ok (.getfield 16, 3) := by decide +kernel
theorem dX10_by_45 : decode cX10_by 45 = .ok (.getfield 169, 3) := by decide +kernel
theorem dX10_by_48 : decode cX10_by 48 = .ok (.iload_n 1, 1) := by decide +kernel
theorem dX10_by_49 : decode cX10_by 49 = .ok (.aaload, 1) := by decide +kernel
theorem dX10_by_50 : decode cX10_by 50 = .ok (.iload_n 2, 1) := by decide +kernel
theorem dX10_by_51 : decode cX10_by 51 = .ok (.invokevirtual 236, 3) := by decide +kernel
theorem dX10_by_54 : decode cX10_by 54 = .ok (.invokevirtual 228, 3) := by decide +kernel
theorem dX10_by_57 : decode cX10_by 57 = .ok (.ireturn, 1) := by decide +kernel
theorem dX10_gap_0 : decode cX10_gap 0 = .ok (.aload_n 0, 1) := by decide +kernel
theorem dX10_gap_1 : decode cX10_gap 1 = .ok (.iload_n 1, 1) := by decide +kernel
theorem dX10_gap_2 : decode cX10_gap 2 = .ok (.invokevirtual 184, 3) := by decide +kernel
theorem dX10_gap_5 : decode cX10_gap 5 = .ok (.ifCond .eq 21, 3) := by decide +kernel
theorem dX10_gap_8 : decode cX10_gap 8 = .ok (.iload_n 2, 1) := by decide +kernel
theorem dX10_gap_9 : decode cX10_gap 9 = .ok (.ifCond .lt 17, 3) := by decide +kernel
theorem dX10_gap_12 : decode cX10_gap 12 = .ok (.iload_n 2, 1) := by decide +kernel
theorem dX10_gap_13 : decode cX10_gap 13 = .ok (.iconst 4, 1) := by decide +kernel
theorem dX10_gap_14 : decode cX10_gap 14 = .ok (.if_icmp .ge 12, 3) := by decide +kernel
theorem dX10_gap_17 : decode cX10_gap 17 = .ok (.iload_n 3, 1) := by decide +kernel
theorem dX10_gap_18 : decode cX10_gap 18 = .ok (.ifCond .lt 8, 3) := by decide +kernel
theorem dX10_gap_21 : decode cX10_gap 21 = .ok (.iload_n 3, 1) := by decide +kernel
theorem dX10_gap_22 : decode cX10_gap 22 = .ok (.iconst 4, 1) := by decide +kernel
theorem dX10_gap_23 : decode cX10_gap 23 = .ok (.if_icmp .lt 6, 3) := by decide +kernel
theorem dX10_gap_26 : decode cX10_gap 26 = .ok (.ldc 239, 2) := by decide +kernel
theorem dX10_gap_28 : decode cX10_gap 28 = .ok (.ireturn, 1) := by decide +kernel
theorem dX10_gap_29 : decode cX10_gap 29 = .ok (.aload_n 0, 1) := by decide +kernel
theorem dX10_gap_30 : decode cX10_gap 30 = .ok (.getfield 35, 3) := by decide +kernel
theorem dX10_gap_33 : decode cX10_gap 33 = .ok (.aload_n 0, 1) := by decide +kernel
theorem dX10_gap_34 : decode cX10_gap 34 = .ok (.getfield 16, 3) := by decide +kernel
theorem dX10_gap_37 : decode cX10_gap 37 = .ok (.aload_n 0, 1) := by decide +kernel
theorem dX10_gap_38 : decode cX10_gap 38 = .ok (.getfield 16, 3) := by decide +kernel
theorem dX10_gap_41 : decode cX10_gap 41 = .ok (.getfield 169, 3) := by decide +kernel
theorem dX10_gap_44 : decode cX10_gap 44 = .ok (.iload_n 1, 1) := by decide +kernel
theorem dX10_gap_45 : decode cX10_gap 45 = .ok (.aaload, 1) := by decide +kernel
theorem dX10_gap_46 : decode cX10_gap 46 = .ok (.aload_n 0, 1) := by decide +kernel
theorem dX10_gap_47 : decode cX10_gap 47 = .ok (.getfield 16, 3) := by decide +kernel
theorem dX10_gap_50 : decode cX10_gap 50 = .ok (.getfield 169, 3) := by decide +kernel
theorem dX10_gap_53 : decode cX10_gap 53 = .ok (.iload_n 1, 1) := by decide +kernel
theorem dX10_gap_54 : decode cX10_gap 54 = .ok (.aaload, 1) := by decide +kernel
theorem dX10_gap_55 : decode cX10_gap 55 = .ok (.invokevirtual 240, 3) := by decide +kernel
theorem dX10_gap_58 : decode cX10_gap 58 = .ok (.invokevirtual 243, 3) := by decide +kernel
theorem dX10_gap_61 : decode cX10_gap 61 = .ok (.astore 5, 2) := by decide +kernel
theorem dX10_gap_63 : decode cX10_gap 63 = .ok (.aload 5, 2) := by decide +kernel
theorem dX10_gap_65 : decode cX10_gap 65 = .ok (.getfield 118, 3) := by decide +kernel
theorem dX10_gap_68 : decode cX10_gap 68 = .ok (.ifCond .eq 6, 3) := by decide +kernel
theorem dX10_gap_71 : decode cX10_gap 71 = .ok (.ldc 247, 2) := by decide +kernel
theorem dX10_gap_73 : decode cX10_gap 73 = .ok (.ireturn, 1) := by decide +kernel
theorem dX10_gap_74 : decode cX10_gap 74 = .ok (.iload 4, 2) := by decide +kernel
theorem dX10_gap_76 : decode cX10_gap 76 = .ok (.ifCond .eq 13, 3) := by decide +kernel
theorem dX10_gap_79 : decode cX10_gap 79 = .ok (.aload 5, 2) := by decide +kernel
theorem dX10_gap_81 : decode cX10_gap 81 = .ok (.iload_n 3, 1) := by decide +kernel
theorem dX10_gap_82 : decode cX10_gap 82 = .ok (.iload_n 2, 1) := by decide +kernel
theorem dX10_gap_83 : decode cX10_gap 83 = .ok (.invokevirtual 248, 3) := by decide +kernel
theorem dX10_gap_86 : decode cX10_gap 86 = .ok (.goto 10, 3) := by decide +kernel
theorem dX10_gap_89 : decode cX10_gap 89 = .ok (.aload 5, 2) := by decide +kernel
theorem dX10_gap_91 : decode cX10_gap 91 = .ok (.iload_n 2, 1) := by decide +kernel
theorem dX10_gap_92 : decode cX10_gap 92 = .ok (.iload_n 3, 1) := by decide +kernel
theorem dX10_gap_93 : decode cX10_gap 93 = .ok (.invokevirtual 248, 3) := by decide +kernel
theorem dX10_gap_96 : decode cX10_gap 96 = .ok (.istore 6, 2) := by decide +kernel
theorem dX10_gap_98 : decode cX10_gap 98 = .ok (.iload 6, 2) := by decide +kernel
theorem dX10_gap_100 : decode cX10_gap 100 = .ok (.ldc 252, 2) := by decide +kernel
theorem dX10_gap_102 : decode cX10_gap 102 = .ok (.if_icmp .ne 6, 3) := by decide +kernel
theorem dX10_gap_105 : decode cX10_gap 105 = .ok (.ldc 253, 2) := by decide +kernel
theorem dX10_gap_107 : decode cX10_gap 107 = .ok (.ireturn, 1) := by decide +kernel
theorem dX10_gap_108 : decode cX10_gap 108 = .ok (.iload 4, 2) := by decide +kernel
theorem dX10_gap_110 : decode cX10_gap 110 = .ok (.ifCond .eq 8, 3) := by decide +kernel
theorem dX10_gap_113 : decode cX10_gap 113 = .ok (.iload 6, 2) := by decide +kernel
theorem dX10_gap_115 : decode cX10_gap 115 = .ok (.goto 6, 3) := by decide +kernel
theorem dX10_gap_118 : decode cX10_gap 118 = .ok (.iload 6, 2) := by decide +kernel
theorem dX10_gap_120 : decode cX10_gap 120 = .ok (.ineg, 1) := by decide +kernel
theorem dX10_gap_121 : decode cX10_gap 121 = .ok (.ireturn, 1) := by decide +kernel
theorem dX10_fewest_0 : decode cX10_fewest 0 = .ok (.aload_n 0, 1) := by decide +kernel
theorem dX10_fewest_1 : decode cX10_fewest 1 = .ok (.iload_n 1, 1) := by decide +kernel
theorem dX10_fewest_2 : decode cX10_fewest 2 = .ok (.invokevirtual 184, 3) := by decide +kernel
theorem dX10_fewest_5 : decode cX10_fewest 5 = .ok (.ifCond .eq 26, 3) := by decide +kernel
theorem dX10_fewest_8 : decode cX10_fewest 8 = .ok (.aload_n 0, 1) := by decide +kernel
theorem dX10_fewest_9 : decode cX10_fewest 9 = .ok (.getfield 35, 3) := by decide +kernel
theorem dX10_fewest_12 : decode cX10_fewest 12 = .ok (.aload_n 0, 1) := by decide +kernel
theorem dX10_fewest_13 : decode cX10_fewest 13 = .ok (.getfield 16, 3) := by decide +kernel
theorem dX10_fewest_16 : decode cX10_fewest 16 = .ok (.aload_n 0, 1) := by decide +kernel
theorem dX10_fewest_17 : decode cX10_fewest 17 = .ok (.getfield 16, 3) := by decide +kernel
theorem dX10_fewest_20 : decode cX10_fewest 20 = .ok (.getfield 169, 3) := by decide +kernel
theorem dX10_fewest_23 : decode cX10_fewest 23 = .ok (.iload_n 1, 1) := by decide +kernel
theorem dX10_fewest_24 : decode cX10_fewest 24 = .ok (.aaload, 1) := by decide +kernel
theorem dX10_fewest_25 : decode cX10_fewest 25 = .ok (.invokevirtual 254, 3) := by decide +kernel
theorem dX10_fewest_28 : decode cX10_fewest 28 = .ok (.goto 4, 3) := by decide +kernel
theorem dX10_fewest_31 : decode cX10_fewest 31 = .ok (.iconst (-1), 1) := by decide +kernel
theorem dX10_fewest_32 : decode cX10_fewest 32 = .ok (.ireturn, 1) := by decide +kernel
theorem dX10_key_0 : decode cX10_key 0 = .ok (.aload_n 0, 1) := by decide +kernel
theorem dX10_key_1 : decode cX10_key 1 = .ok (.iload_n 1, 1) := by decide +kernel
theorem dX10_key_2 : decode cX10_key 2 = .ok (.invokevirtual 184, 3) := by decide +kernel
theorem dX10_key_5 : decode cX10_key 5 = .ok (.ifCond .eq 26, 3) := by decide +kernel
theorem dX10_key_8 : decode cX10_key 8 = .ok (.aload_n 0, 1) := by decide +kernel
theorem dX10_key_9 : decode cX10_key 9 = .ok (.getfield 35, 3) := by decide +kernel
theorem dX10_key_12 : decode cX10_key 12 = .ok (.aload_n 0, 1) := by decide +kernel
theorem dX10_key_13 : decode cX10_key 13 = .ok (.getfield 16, 3) := by decide +kernel
theorem dX10_key_16 : decode cX10_key 16 = .ok (.aload_n 0, 1) := by decide +kernel
theorem dX10_key_17 : decode cX10_key 17 = .ok (.getfield 16, 3) := by decide +kernel
theorem dX10_key_20 : decode cX10_key 20 = .ok (.getfield 169, 3) := by decide +kernel
theorem dX10_key_23 : decode cX10_key 23 = .ok (.iload_n 1, 1) := by decide +kernel
theorem dX10_key_24 : decode cX10_key 24 = .ok (.aaload, 1) := by decide +kernel
theorem dX10_key_25 : decode cX10_key 25 = .ok (.invokevirtual 258, 3) := by decide +kernel
theorem dX10_key_28 : decode cX10_key 28 = .ok (.goto 4, 3) := by decide +kernel
theorem dX10_key_31 : decode cX10_key 31 = .ok (.iconst (-1), 1) := by decide +kernel
theorem dX10_key_32 : decode cX10_key 32 = .ok (.ireturn, 1) := by decide +kernel
theorem dX10_enough_0 : decode cX10_enough 0 = .ok (.aload_n 0, 1) := by decide +kernel
theorem dX10_enough_1 : decode cX10_enough 1 = .ok (.iload_n 1, 1) := by decide +kernel
theorem dX10_enough_2 : decode cX10_enough 2 = .ok (.invokevirtual 184, 3) := by decide +kernel
theorem dX10_enough_5 : decode cX10_enough 5 = .ok (.ifCond .eq 26, 3) := by decide +kernel
theorem dX10_enough_8 : decode cX10_enough 8 = .ok (.aload_n 0, 1) := by decide +kernel
theorem dX10_enough_9 : decode cX10_enough 9 = .ok (.getfield 35, 3) := by decide +kernel
theorem dX10_enough_12 : decode cX10_enough 12 = .ok (.aload_n 0, 1) := by decide +kernel
theorem dX10_enough_13 : decode cX10_enough 13 = .ok (.getfield 16, 3) := by decide +kernel
theorem dX10_enough_16 : decode cX10_enough 16 = .ok (.aload_n 0, 1) := by decide +kernel
theorem dX10_enough_17 : decode cX10_enough 17 = .ok (.getfield 16, 3) := by decide +kernel
theorem dX10_enough_20 : decode cX10_enough 20 = .ok (.getfield 169, 3) := by decide +kernel
theorem dX10_enough_23 : decode cX10_enough 23 = .ok (.iload_n 1, 1) := by decide +kernel
theorem dX10_enough_24 : decode cX10_enough 24 = .ok (.aaload, 1) := by decide +kernel
theorem dX10_enough_25 : decode cX10_enough 25 = .ok (.invokevirtual 261, 3) := by decide +kernel
theorem dX10_enough_28 : decode cX10_enough 28 = .ok (.goto 4, 3) := by decide +kernel
theorem dX10_enough_31 : decode cX10_enough 31 = .ok (.iconst (-1), 1) := by decide +kernel
theorem dX10_enough_32 : decode cX10_enough 32 = .ok (.ireturn, 1) := by decide +kernel
theorem dX10_mend_0 : decode cX10_mend 0 = .ok (.aload_n 0, 1) := by decide +kernel
theorem dX10_mend_1 : decode cX10_mend 1 = .ok (.iload_n 1, 1) := by decide +kernel
theorem dX10_mend_2 : decode cX10_mend 2 = .ok (.invokevirtual 184, 3) := by decide +kernel
theorem dX10_mend_5 : decode cX10_mend 5 = .ok (.ifCond .eq 26, 3) := by decide +kernel
theorem dX10_mend_8 : decode cX10_mend 8 = .ok (.aload_n 0, 1) := by decide +kernel
theorem dX10_mend_9 : decode cX10_mend 9 = .ok (.getfield 35, 3) := by decide +kernel
theorem dX10_mend_12 : decode cX10_mend 12 = .ok (.aload_n 0, 1) := by decide +kernel
theorem dX10_mend_13 : decode cX10_mend 13 = .ok (.getfield 16, 3) := by decide +kernel
theorem dX10_mend_16 : decode cX10_mend 16 = .ok (.aload_n 0, 1) := by decide +kernel
theorem dX10_mend_17 : decode cX10_mend 17 = .ok (.getfield 16, 3) := by decide +kernel
theorem dX10_mend_20 : decode cX10_mend 20 = .ok (.getfield 169, 3) := by decide +kernel
theorem dX10_mend_23 : decode cX10_mend 23 = .ok (.iload_n 1, 1) := by decide +kernel
theorem dX10_mend_24 : decode cX10_mend 24 = .ok (.aaload, 1) := by decide +kernel
theorem dX10_mend_25 : decode cX10_mend 25 = .ok (.invokevirtual 264, 3) := by decide +kernel
theorem dX10_mend_28 : decode cX10_mend 28 = .ok (.goto 4, 3) := by decide +kernel
theorem dX10_mend_31 : decode cX10_mend 31 = .ok (.iconst (-1), 1) := by decide +kernel
theorem dX10_mend_32 : decode cX10_mend 32 = .ok (.ireturn, 1) := by decide +kernel
theorem dX10_look_0 : decode cX10_look 0 = .ok (.aload_n 0, 1) := by decide +kernel
theorem dX10_look_1 : decode cX10_look 1 = .ok (.iload_n 1, 1) := by decide +kernel
theorem dX10_look_2 : decode cX10_look 2 = .ok (.invokevirtual 184, 3) := by decide +kernel
theorem dX10_look_5 : decode cX10_look 5 = .ok (.ifCond .eq 12, 3) := by decide +kernel
theorem dX10_look_8 : decode cX10_look 8 = .ok (.iload_n 2, 1) := by decide +kernel
theorem dX10_look_9 : decode cX10_look 9 = .ok (.ifCond .lt 8, 3) := by decide +kernel
theorem dX10_look_12 : decode cX10_look 12 = .ok (.iload_n 2, 1) := by decide +kernel
theorem dX10_look_13 : decode cX10_look 13 = .ok (.iconst 2, 1) := by decide +kernel
theorem dX10_look_14 : decode cX10_look 14 = .ok (.if_icmp .le 5, 3) := by decide +kernel
theorem dX10_look_17 : decode cX10_look 17 = .ok (.iconst (-1), 1) := by decide +kernel
theorem dX10_look_18 : decode cX10_look 18 = .ok (.ireturn, 1) := by decide +kernel
theorem dX10_look_19 : decode cX10_look 19 = .ok (.aload_n 0, 1) := by decide +kernel
theorem dX10_look_20 : decode cX10_look 20 = .ok (.getfield 35, 3) := by decide +kernel
theorem dX10_look_23 : decode cX10_look 23 = .ok (.aload_n 0, 1) := by decide +kernel
theorem dX10_look_24 : decode cX10_look 24 = .ok (.getfield 16, 3) := by decide +kernel
theorem dX10_look_27 : decode cX10_look 27 = .ok (.aload_n 0, 1) := by decide +kernel
theorem dX10_look_28 : decode cX10_look 28 = .ok (.getfield 16, 3) := by decide +kernel
theorem dX10_look_31 : decode cX10_look 31 = .ok (.getfield 169, 3) := by decide +kernel
theorem dX10_look_34 : decode cX10_look 34 = .ok (.iload_n 1, 1) := by decide +kernel
theorem dX10_look_35 : decode cX10_look 35 = .ok (.aaload, 1) := by decide +kernel
theorem dX10_look_36 : decode cX10_look 36 = .ok (.aload_n 0, 1) := by decide +kernel
theorem dX10_look_37 : decode cX10_look 37 = .ok (.iload_n 1, 1) := by decide +kernel
theorem dX10_look_38 : decode cX10_look 38 = .ok (.invokevirtual 267, 3) := by decide +kernel
theorem dX10_look_41 : decode cX10_look 41 = .ok (.invokevirtual 270, 3) := by decide +kernel
theorem dX10_look_44 : decode cX10_look 44 = .ok (.istore_n 3, 1) := by decide +kernel
theorem dX10_look_45 : decode cX10_look 45 = .ok (.iload_n 2, 1) := by decide +kernel
theorem dX10_look_46 : decode cX10_look 46 = .ok (.ifCond .ne 5, 3) := by decide +kernel
theorem dX10_look_49 : decode cX10_look 49 = .ok (.iload_n 3, 1) := by decide +kernel
theorem dX10_look_50 : decode cX10_look 50 = .ok (.ireturn, 1) := by decide +kernel
theorem dX10_look_51 : decode cX10_look 51 = .ok (.iload_n 2, 1) := by decide +kernel
theorem dX10_look_52 : decode cX10_look 52 = .ok (.iconst 1, 1) := by decide +kernel
theorem dX10_look_53 : decode cX10_look 53 = .ok (.if_icmp .ne 13, 3) := by decide +kernel
theorem dX10_look_56 : decode cX10_look 56 = .ok (.aload_n 0, 1) := by decide +kernel
theorem dX10_look_57 : decode cX10_look 57 = .ok (.getfield 35, 3) := by decide +kernel
theorem dX10_look_60 : decode cX10_look 60 = .ok (.getfield 273, 3) := by decide +kernel
theorem dX10_look_63 : decode cX10_look 63 = .ok (.goto 10, 3) := by decide +kernel
theorem dX10_look_66 : decode cX10_look 66 = .ok (.aload_n 0, 1) := by decide +kernel
theorem dX10_look_67 : decode cX10_look 67 = .ok (.getfield 35, 3) := by decide +kernel
theorem dX10_look_70 : decode cX10_look 70 = .ok (.getfield 276, 3) := by decide +kernel
theorem dX10_look_73 : decode cX10_look 73 = .ok (.ireturn, 1) := by decide +kernel
theorem dX10_callNow_0 : decode cX10_callNow 0 = .ok (.iload_n 1, 1) := by decide +kernel
theorem dX10_callNow_1 : decode cX10_callNow 1 = .ok (.aload_n 0, 1) := by decide +kernel
theorem dX10_callNow_2 : decode cX10_callNow 2 = .ok (.getfield 42, 3) := by decide +kernel
theorem dX10_callNow_5 : decode cX10_callNow 5 = .ok (.getfield 166, 3) := by decide +kernel
theorem dX10_callNow_8 : decode cX10_callNow 8 = .ok (.if_icmp .ge 14, 3) := by decide +kernel
theorem dX10_callNow_11 : decode cX10_callNow 11 = .ok (.aload_n 0, 1) := by decide +kernel
theorem dX10_callNow_12 : decode cX10_callNow 12 = .ok (.getfield 42, 3) := by decide +kernel
theorem dX10_callNow_15 : decode cX10_callNow 15 = .ok (.iload_n 1, 1) := by decide +kernel
theorem dX10_callNow_16 : decode cX10_callNow 16 = .ok (.invokevirtual 178, 3) := by decide +kernel
theorem dX10_callNow_19 : decode cX10_callNow 19 = .ok (.goto 15, 3) := by decide +kernel
theorem dX10_callNow_22 : decode cX10_callNow 22 = .ok (.aload_n 0, 1) := by decide +kernel
theorem dX10_callNow_23 : decode cX10_callNow 23 = .ok (.getfield 16, 3) := by decide +kernel
theorem dX10_callNow_26 : decode cX10_callNow 26 = .ok (.getfield 169, 3) := by decide +kernel
theorem dX10_callNow_29 : decode cX10_callNow 29 = .ok (.iload_n 1, 1) := by decide +kernel
theorem dX10_callNow_30 : decode cX10_callNow 30 = .ok (.aaload, 1) := by decide +kernel
theorem dX10_callNow_31 : decode cX10_callNow 31 = .ok (.getfield 192, 3) := by decide +kernel
theorem dX10_callNow_34 : decode cX10_callNow 34 = .ok (.ireturn, 1) := by decide +kernel
theorem dX10_next_0 : decode cX10_next 0 = .ok (.aload_n 0, 1) := by decide +kernel
theorem dX10_next_1 : decode cX10_next 1 = .ok (.getfield 42, 3) := by decide +kernel
theorem dX10_next_4 : decode cX10_next 4 = .ok (.getfield 166, 3) := by decide +kernel
theorem dX10_next_7 : decode cX10_next 7 = .ok (.istore_n 1, 1) := by decide +kernel
theorem dX10_next_8 : decode cX10_next 8 = .ok (.aload_n 0, 1) := by decide +kernel
theorem dX10_next_9 : decode cX10_next 9 = .ok (.iload_n 1, 1) := by decide +kernel
theorem dX10_next_10 : decode cX10_next 10 = .ok (.invokevirtual 184, 3) := by decide +kernel
theorem dX10_next_13 : decode cX10_next 13 = .ok (.ifCond .ne 5, 3) := by decide +kernel
theorem dX10_next_16 : decode cX10_next 16 = .ok (.iconst (-1), 1) := by decide +kernel
theorem dX10_next_17 : decode cX10_next 17 = .ok (.ireturn, 1) := by decide +kernel
theorem dX10_next_18 : decode cX10_next 18 = .ok (.aload_n 0, 1) := by decide +kernel
theorem dX10_next_19 : decode cX10_next 19 = .ok (.invokevirtual 279, 3) := by decide +kernel
theorem dX10_next_22 : decode cX10_next 22 = .ok (.aload_n 0, 1) := by decide +kernel
theorem dX10_next_23 : decode cX10_next 23 = .ok (.getfield 42, 3) := by decide +kernel
theorem dX10_next_26 : decode cX10_next 26 = .ok (.iload_n 1, 1) := by decide +kernel
theorem dX10_next_27 : decode cX10_next 27 = .ok (.aload_n 0, 1) := by decide +kernel
theorem dX10_next_28 : decode cX10_next 28 = .ok (.getfield 16, 3) := by decide +kernel
theorem dX10_next_31 : decode cX10_next 31 = .ok (.getfield 169, 3) := by decide +kernel
theorem dX10_next_34 : decode cX10_next 34 = .ok (.iload_n 1, 1) := by decide +kernel
theorem dX10_next_35 : decode cX10_next 35 = .ok (.aaload, 1) := by decide +kernel
theorem dX10_next_36 : decode cX10_next 36 = .ok (.getfield 192, 3) := by decide +kernel
theorem dX10_next_39 : decode cX10_next 39 = .ok (.invokevirtual 282, 3) := by decide +kernel
theorem dX10_next_42 : decode cX10_next 42 = .ok (.aload_n 0, 1) := by decide +kernel
theorem dX10_next_43 : decode cX10_next 43 = .ok (.getfield 16, 3) := by decide +kernel
theorem dX10_next_46 : decode cX10_next 46 = .ok (.iload_n 1, 1) := by decide +kernel
theorem dX10_next_47 : decode cX10_next 47 = .ok (.invokevirtual 286, 3) := by decide +kernel
theorem dX10_next_50 : decode cX10_next 50 = .ok (.ifCond .eq 12, 3) := by decide +kernel
theorem dX10_next_53 : decode cX10_next 53 = .ok (.aload_n 0, 1) := by decide +kernel
theorem dX10_next_54 : decode cX10_next 54 = .ok (.iload_n 1, 1) := by decide +kernel
theorem dX10_next_55 : decode cX10_next 55 = .ok (.iconst (-1), 1) := by decide +kernel
theorem dX10_next_56 : decode cX10_next 56 = .ok (.invokevirtual 289, 3) := by decide +kernel
theorem dX10_next_59 : decode cX10_next 59 = .ok (.goto 4, 3) := by decide +kernel
theorem dX10_next_62 : decode cX10_next 62 = .ok (.iconst 3, 1) := by decide +kernel
theorem dX10_next_63 : decode cX10_next 63 = .ok (.ireturn, 1) := by decide +kernel
theorem dX10_challenge_0 : decode cX10_challenge 0 = .ok (.aload_n 0, 1) := by decide +kernel
theorem dX10_challenge_1 : decode cX10_challenge 1 = .ok (.iload_n 1, 1) := by decide +kernel
theorem dX10_challenge_2 : decode cX10_challenge 2 = .ok (.invokevirtual 150, 3) := by decide +kernel
theorem dX10_challenge_5 : decode cX10_challenge 5 = .ok (.ifCond .eq 11, 3) := by decide +kernel
theorem dX10_challenge_8 : decode cX10_challenge 8 = .ok (.aload_n 0, 1) := by decide +kernel
theorem dX10_challenge_9 : decode cX10_challenge 9 = .ok (.iload_n 2, 1) := by decide +kernel
theorem dX10_challenge_10 : decode cX10_challenge 10 = .ok (.invokevirtual 184, 3) := by decide +kernel
theorem dX10_challenge_13 : decode cX10_challenge 13 = .ok (.ifCond .ne 5, 3) := by decide +kernel
theorem dX10_challenge_16 : decode cX10_challenge 16 = .ok (.iconst (-1), 1) := by decide +kernel
theorem dX10_challenge_17 : decode cX10_challenge 17 = .ok (.ireturn, 1) := by decide +kernel
theorem dX10_challenge_18 : decode cX10_challenge 18 = .ok (.aload_n 0, 1) := by decide +kernel
theorem dX10_challenge_19 : decode cX10_challenge 19 = .ok (.iload_n 1, 1) := by decide +kernel
theorem dX10_challenge_20 : decode cX10_challenge 20 = .ok (.iload_n 2, 1) := by decide +kernel
theorem dX10_challenge_21 : decode cX10_challenge 21 = .ok (.invokevirtual 292, 3) := by decide +kernel
theorem dX10_challenge_24 : decode cX10_challenge 24 = .ok (.ifCond .ne 6, 3) := by decide +kernel
theorem dX10_challenge_27 : decode cX10_challenge 27 = .ok (.bipush (-2), 2) := by decide +kernel
theorem dX10_challenge_29 : decode cX10_challenge 29 = .ok (.ireturn, 1) := by decide +kernel
theorem dX10_challenge_30 : decode cX10_challenge 30 = .ok (.aload_n 0, 1) := by decide +kernel
theorem dX10_challenge_31 : decode cX10_challenge 31 = .ok (.invokevirtual 279, 3) := by decide +kernel
theorem dX10_challenge_34 : decode cX10_challenge 34 = .ok (.aload_n 0, 1) := by decide +kernel
theorem dX10_challenge_35 : decode cX10_challenge 35 = .ok (.iload_n 2, 1) := by decide +kernel
theorem dX10_challenge_36 : decode cX10_challenge 36 = .ok (.iload_n 1, 1) := by decide +kernel
theorem dX10_challenge_37 : decode cX10_challenge 37 = .ok (.invokevirtual 289, 3) := by decide +kernel
theorem dX10_challenge_40 : decode cX10_challenge 40 = .ok (.istore_n 3, 1) := by decide +kernel
theorem dX10_challenge_41 : decode cX10_challenge 41 = .ok (.iload_n 3, 1) := by decide +kernel
theorem dX10_challenge_42 : decode cX10_challenge 42 = .ok (.iconst 2, 1) := by decide +kernel
theorem dX10_challenge_43 : decode cX10_challenge 43 = .ok (.if_icmp .ne 53, 3) := by decide +kernel
theorem dX10_challenge_46 : decode cX10_challenge 46 = .ok (.aload_n 0, 1) := by decide +kernel
theorem dX10_challenge_47 : decode cX10_challenge 47 = .ok (.getfield 42, 3) := by decide +kernel
theorem dX10_challenge_50 : decode cX10_challenge 50 = .ok (.getfield 160, 3) := by decide +kernel
theorem dX10_challenge_53 : decode cX10_challenge 53 = .ok (.iload_n 1, 1) := by decide +kernel
theorem dX10_challenge_54 : decode cX10_challenge 54 = .ok (.dup2, 1) := by decide +kernel
theorem dX10_challenge_55 : decode cX10_challenge 55 = .ok (.iaload, 1) := by decide +kernel
theorem dX10_challenge_56 : decode cX10_challenge 56 = .ok (.iconst 1, 1) := by decide +kernel
theorem dX10_challenge_57 : decode cX10_challenge 57 = .ok (.iadd, 1) := by decide +kernel
theorem dX10_challenge_58 : decode cX10_challenge 58 = .ok (.iastore, 1) := by decide +kernel
theorem dX10_challenge_59 : decode cX10_challenge 59 = .ok (.aload_n 0, 1) := by decide +kernel
theorem dX10_challenge_60 : decode cX10_challenge 60 = .ok (.getfield 42, 3) := by decide +kernel
theorem dX10_challenge_63 : decode cX10_challenge 63 = .ok (.getfield 157, 3) := by decide +kernel
theorem dX10_challenge_66 : decode cX10_challenge 66 = .ok (.iload_n 1, 1) := by decide +kernel
theorem dX10_challenge_67 : decode cX10_challenge 67 = .ok (.aload_n 0, 1) := by decide +kernel
theorem dX10_challenge_68 : decode cX10_challenge 68 = .ok (.getfield 16, 3) := by decide +kernel
theorem dX10_challenge_71 : decode cX10_challenge 71 = .ok (.aload_n 0, 1) := by decide +kernel
theorem dX10_challenge_72 : decode cX10_challenge 72 = .ok (.getfield 42, 3) := by decide +kernel
theorem dX10_challenge_75 : decode cX10_challenge 75 = .ok (.getfield 157, 3) := by decide +kernel
theorem dX10_challenge_78 : decode cX10_challenge 78 = .ok (.iload_n 1, 1) := by decide +kernel
theorem dX10_challenge_79 : decode cX10_challenge 79 = .ok (.iaload, 1) := by decide +kernel
theorem dX10_challenge_80 : decode cX10_challenge 80 = .ok (.aload_n 0, 1) := by decide +kernel
theorem dX10_challenge_81 : decode cX10_challenge 81 = .ok (.getfield 42, 3) := by decide +kernel
theorem dX10_challenge_84 : decode cX10_challenge 84 = .ok (.getfield 160, 3) := by decide +kernel
theorem dX10_challenge_87 : decode cX10_challenge 87 = .ok (.iload_n 1, 1) := by decide +kernel
theorem dX10_challenge_88 : decode cX10_challenge 88 = .ok (.iaload, 1) := by decide +kernel
theorem dX10_challenge_89 : decode cX10_challenge 89 = .ok (.invokevirtual 296, 3) := by decide +kernel
theorem dX10_challenge_92 : decode cX10_challenge 92 = .ok (.iastore, 1) := by decide +kernel
theorem dX10_challenge_93 : decode cX10_challenge 93 = .ok (.goto 26, 3) := by decide +kernel
theorem dX10_challenge_96 : decode cX10_challenge 96 = .ok (.aload_n 0, 1) := by decide +kernel
theorem dX10_challenge_97 : decode cX10_challenge 97 = .ok (.getfield 42, 3) := by decide +kernel
theorem dX10_challenge_100 : decode cX10_challenge 100 = .ok (.getfield 157, 3) := by decide +kernel
theorem dX10_challenge_103 : decode cX10_challenge 103 = .ok (.iload_n 1, 1) := by decide +kernel
theorem dX10_challenge_104 : decode cX10_challenge 104 = .ok (.dup2, 1) := by decide +kernel
theorem dX10_challenge_105 : decode cX10_challenge 105 = .ok (.iaload, 1) := by decide +kernel
theorem dX10_challenge_106 : decode cX10_challenge 106 = .ok (.iconst 1, 1) := by decide +kernel
theorem dX10_challenge_107 : decode cX10_challenge 107 = .ok (.isub, 1) := by decide +kernel
theorem dX10_challenge_108 : decode cX10_challenge 108 = .ok (.iastore, 1) := by decide +kernel
theorem dX10_challenge_109 : decode cX10_challenge 109 = .ok (.aload_n 0, 1) := by decide +kernel
theorem dX10_challenge_110 : decode cX10_challenge 110 = .ok (.getfield 42, 3) := by decide +kernel
theorem dX10_challenge_113 : decode cX10_challenge 113 = .ok (.getfield 299, 3) := by decide +kernel
theorem dX10_challenge_116 : decode cX10_challenge 116 = .ok (.iload_n 2, 1) := by decide +kernel
theorem dX10_challenge_117 : decode cX10_challenge 117 = .ok (.iload_n 1, 1) := by decide +kernel
theorem dX10_challenge_118 : decode cX10_challenge 118 = .ok (.iastore, 1) := by decide +kernel
theorem dX10_challenge_119 : decode cX10_challenge 119 = .ok (.iload_n 3, 1) := by decide +kernel
theorem dX10_challenge_120 : decode cX10_challenge 120 = .ok (.ireturn, 1) := by decide +kernel
theorem dX10_canChallenge_0 : decode cX10_canChallenge 0 = .ok (.aload_n 0, 1) := by decide +kernel
theorem dX10_canChallenge_1 : decode cX10_canChallenge 1 = .ok (.getfield 42, 3) := by decide +kernel
theorem dX10_canChallenge_4 : decode cX10_canChallenge 4 = .ok (.getfield 157, 3) := by decide +kernel
theorem dX10_canChallenge_7 : decode cX10_canChallenge 7 = .ok (.iload_n 1, 1) := by decide +kernel
theorem dX10_canChallenge_8 : decode cX10_canChallenge 8 = .ok (.iaload, 1) := by decide +kernel
theorem dX10_canChallenge_9 : decode cX10_canChallenge 9 = .ok (.ifCond .le 63, 3) := by decide +kernel
theorem dX10_canChallenge_12 : decode cX10_canChallenge 12 = .ok (.iload_n 2, 1) := by decide +kernel
theorem dX10_canChallenge_13 : decode cX10_canChallenge 13 = .ok (.aload_n 0, 1) := by decide +kernel
theorem dX10_canChallenge_14 : decode cX10_canChallenge 14 = .ok (.getfield 42, 3) := by decide +kernel
theorem dX10_canChallenge_17 : decode cX10_canChallenge 17 = .ok (.getfield 166, 3) := by decide +kernel
theorem dX10_canChallenge_20 : decode cX10_canChallenge 20 = .ok (.if_icmp .ge 52, 3) := by decide +kernel
theorem dX10_canChallenge_23 : decode cX10_canChallenge 23 = .ok (.aload_n 0, 1) := by decide +kernel
theorem dX10_canChallenge_24 : decode cX10_canChallenge 24 = .ok (.getfield 42, 3) := by decide +kernel
theorem dX10_canChallenge_27 : decode cX10_canChallenge 27 = .ok (.getfield 166, 3) := by decide +kernel
theorem dX10_canChallenge_30 : decode cX10_canChallenge 30 = .ok (.iconst 1, 1) := by decide +kernel
theorem dX10_canChallenge_31 : decode cX10_canChallenge 31 = .ok (.isub, 1) := by decide +kernel
theorem dX10_canChallenge_32 : decode cX10_canChallenge 32 = .ok (.iload_n 2, 1) := by decide +kernel
theorem dX10_canChallenge_33 : decode cX10_canChallenge 33 = .ok (.isub, 1) := by decide +kernel
theorem dX10_canChallenge_34 : decode cX10_canChallenge 34 = .ok (.aload_n 0, 1) := by decide +kernel
theorem dX10_canChallenge_35 : decode cX10_canChallenge 35 = .ok (.getfield 16, 3) := by decide +kernel
theorem dX10_canChallenge_38 : decode cX10_canChallenge 38 = .ok (.getfield 302, 3) := by decide +kernel
theorem dX10_canChallenge_41 : decode cX10_canChallenge 41 = .ok (.iconst 3, 1) := by decide +kernel
theorem dX10_canChallenge_42 : decode cX10_canChallenge 42 = .ok (.iaload, 1) := by decide +kernel
theorem dX10_canChallenge_43 : decode cX10_canChallenge 43 = .ok (.if_icmp .gt 29, 3) := by decide +kernel
theorem dX10_canChallenge_46 : decode cX10_canChallenge 46 = .ok (.aload_n 0, 1) := by decide +kernel
theorem dX10_canChallenge_47 : decode cX10_canChallenge 47 = .ok (.getfield 42, 3) := by decide +kernel
theorem dX10_canChallenge_50 : decode cX10_canChallenge 50 = .ok (.iload_n 2, 1) := by decide +kernel
theorem dX10_canChallenge_51 : decode cX10_canChallenge 51 = .ok (.invokevirtual 197, 3) := by decide +kernel
theorem dX10_canChallenge_54 : decode cX10_canChallenge 54 = .ok (.ifCond .ne 18, 3) := by decide +kernel
theorem dX10_canChallenge_57 : decode cX10_canChallenge 57 = .ok (.aload_n 0, 1) := by decide +kernel
theorem dX10_canChallenge_58 : decode cX10_canChallenge 58 = .ok (.getfield 42, 3) := by decide +kernel
theorem dX10_canChallenge_61 : decode cX10_canChallenge 61 = .ok (.iload_n 2, 1) := by decide +kernel
theorem dX10_canChallenge_62 : decode cX10_canChallenge 62 = .ok (.invokevirtual 200, 3) := by decide +kernel
theorem dX10_canChallenge_65 : decode cX10_canChallenge 65 = .ok (.ifCond .ne 7, 3) := by decide +kernel
theorem dX10_canChallenge_68 : decode cX10_canChallenge 68 = .ok (.iconst 1, 1) := by decide +kernel
theorem dX10_canChallenge_69 : decode cX10_canChallenge 69 = .ok (.goto 4, 3) := by decide +kernel
theorem dX10_canChallenge_72 : decode cX10_canChallenge 72 = .ok (.iconst 0, 1) := by decide +kernel
theorem dX10_canChallenge_73 : decode cX10_canChallenge 73 = .ok (.ireturn, 1) := by decide +kernel
theorem dX10_reviewNow_0 : decode cX10_reviewNow 0 = .ok (.aload_n 0, 1) := by decide +kernel
theorem dX10_reviewNow_1 : decode cX10_reviewNow 1 = .ok (.getfield 35, 3) := by decide +kernel
theorem dX10_reviewNow_4 : decode cX10_reviewNow 4 = .ok (.aload_n 0, 1) := by decide +kernel
theorem dX10_reviewNow_5 : decode cX10_reviewNow 5 = .ok (.getfield 16, 3) := by decide +kernel
theorem dX10_reviewNow_8 : decode cX10_reviewNow 8 = .ok (.aload_n 0, 1) := by decide +kernel
theorem dX10_reviewNow_9 : decode cX10_reviewNow 9 = .ok (.getfield 16, 3) := by decide +kernel
theorem dX10_reviewNow_12 : decode cX10_reviewNow 12 = .ok (.getfield 169, 3) := by decide +kernel
theorem dX10_reviewNow_15 : decode cX10_reviewNow 15 = .ok (.iload_n 1, 1) := by decide +kernel
theorem dX10_reviewNow_16 : decode cX10_reviewNow 16 = .ok (.aaload, 1) := by decide +kernel
theorem dX10_reviewNow_17 : decode cX10_reviewNow 17 = .ok (.aload_n 0, 1) := by decide +kernel
theorem dX10_reviewNow_18 : decode cX10_reviewNow 18 = .ok (.getfield 42, 3) := by decide +kernel
theorem dX10_reviewNow_21 : decode cX10_reviewNow 21 = .ok (.iload_n 1, 1) := by decide +kernel
theorem dX10_reviewNow_22 : decode cX10_reviewNow 22 = .ok (.invokevirtual 178, 3) := by decide +kernel
theorem dX10_reviewNow_25 : decode cX10_reviewNow 25 = .ok (.invokevirtual 270, 3) := by decide +kernel
theorem dX10_reviewNow_28 : decode cX10_reviewNow 28 = .ok (.istore_n 3, 1) := by decide +kernel
theorem dX10_reviewNow_29 : decode cX10_reviewNow 29 = .ok (.aload_n 0, 1) := by decide +kernel
theorem dX10_reviewNow_30 : decode cX10_reviewNow 30 = .ok (.getfield 42, 3) := by decide +kernel
theorem dX10_reviewNow_33 : decode cX10_reviewNow 33 = .ok (.dup, 1) := by decide +kernel
theorem dX10_reviewNow_34 : decode cX10_reviewNow 34 = .ok (.getfield 305, 3) := by decide +kernel
theorem dX10_reviewNow_37 : decode cX10_reviewNow 37 = .ok (.iconst 1, 1) := by decide +kernel
theorem dX10_reviewNow_38 : decode cX10_reviewNow 38 = .ok (.iload_n 1, 1) := by decide +kernel
theorem dX10_reviewNow_39 : decode cX10_reviewNow 39 = .ok (.ishl, 1) := by decide +kernel
theorem dX10_reviewNow_40 : decode cX10_reviewNow 40 = .ok (.ior, 1) := by decide +kernel
theorem dX10_reviewNow_41 : decode cX10_reviewNow 41 = .ok (.putfield 305, 3) := by decide +kernel
theorem dX10_reviewNow_44 : decode cX10_reviewNow 44 = .ok (.aload_n 0, 1) := by decide +kernel
theorem dX10_reviewNow_45 : decode cX10_reviewNow 45 = .ok (.getfield 42, 3) := by decide +kernel
theorem dX10_reviewNow_48 : decode cX10_reviewNow 48 = .ok (.getfield 308, 3) := by decide +kernel
theorem dX10_reviewNow_51 : decode cX10_reviewNow 51 = .ok (.iload_n 1, 1) := by decide +kernel
theorem dX10_reviewNow_52 : decode cX10_reviewNow 52 = .ok (.dup2, 1) := by decide +kernel
theorem dX10_reviewNow_53 : decode cX10_reviewNow 53 = .ok (.iaload, 1) := by decide +kernel
theorem dX10_reviewNow_54 : decode cX10_reviewNow 54 = .ok (.aload_n 0, 1) := by decide +kernel
theorem dX10_reviewNow_55 : decode cX10_reviewNow 55 = .ok (.getfield 35, 3) := by decide +kernel
theorem dX10_reviewNow_58 : decode cX10_reviewNow 58 = .ok (.getfield 273, 3) := by decide +kernel
theorem dX10_reviewNow_61 : decode cX10_reviewNow 61 = .ok (.iadd, 1) := by decide +kernel
theorem dX10_reviewNow_62 : decode cX10_reviewNow 62 = .ok (.iastore, 1) := by decide +kernel
theorem dX10_reviewNow_63 : decode cX10_reviewNow 63 = .ok (.aload_n 0, 1) := by decide +kernel
theorem dX10_reviewNow_64 : decode cX10_reviewNow 64 = .ok (.getfield 42, 3) := by decide +kernel
theorem dX10_reviewNow_67 : decode cX10_reviewNow 67 = .ok (.iload_n 1, 1) := by decide +kernel
theorem dX10_reviewNow_68 : decode cX10_reviewNow 68 = .ok (.iload_n 2, 1) := by decide +kernel
theorem dX10_reviewNow_69 : decode cX10_reviewNow 69 = .ok (.iload_n 3, 1) := by decide +kernel
theorem dX10_reviewNow_70 : decode cX10_reviewNow 70 = .ok (.aload_n 0, 1) := by decide +kernel
theorem dX10_reviewNow_71 : decode cX10_reviewNow 71 = .ok (.getfield 35, 3) := by decide +kernel
theorem dX10_reviewNow_74 : decode cX10_reviewNow 74 = .ok (.getfield 273, 3) := by decide +kernel
theorem dX10_reviewNow_77 : decode cX10_reviewNow 77 = .ok (.invokevirtual 310, 3) := by decide +kernel
theorem dX10_reviewNow_80 : decode cX10_reviewNow 80 = .ok (.iload_n 3, 1) := by decide +kernel
theorem dX10_reviewNow_81 : decode cX10_reviewNow 81 = .ok (.iconst 2, 1) := by decide +kernel
theorem dX10_reviewNow_82 : decode cX10_reviewNow 82 = .ok (.if_icmp .ne 45, 3) := by decide +kernel
theorem dX10_reviewNow_85 : decode cX10_reviewNow 85 = .ok (.aload_n 0, 1) := by decide +kernel
theorem dX10_reviewNow_86 : decode cX10_reviewNow 86 = .ok (.getfield 42, 3) := by decide +kernel
theorem dX10_reviewNow_89 : decode cX10_reviewNow 89 = .ok (.iload_n 1, 1) := by decide +kernel
theorem dX10_reviewNow_90 : decode cX10_reviewNow 90 = .ok (.invokevirtual 314, 3) := by decide +kernel
theorem dX10_reviewNow_93 : decode cX10_reviewNow 93 = .ok (.aload_n 0, 1) := by decide +kernel
theorem dX10_reviewNow_94 : decode cX10_reviewNow 94 = .ok (.getfield 16, 3) := by decide +kernel
theorem dX10_reviewNow_97 : decode cX10_reviewNow 97 = .ok (.getfield 132, 3) := by decide +kernel
theorem dX10_reviewNow_100 : decode cX10_reviewNow 100 = .ok (.aload_n 0, 1) := by decide +kernel
theorem dX10_reviewNow_101 : decode cX10_reviewNow 101 = .ok (.getfield 16, 3) := by decide +kernel
theorem dX10_reviewNow_104 : decode cX10_reviewNow 104 = .ok (.getfield 169, 3) := by decide +kernel
theorem dX10_reviewNow_107 : decode cX10_reviewNow 107 = .ok (.iload_n 1, 1) := by decide +kernel
theorem dX10_reviewNow_108 : decode cX10_reviewNow 108 = .ok (.aaload, 1) := by decide +kernel
theorem dX10_reviewNow_109 : decode cX10_reviewNow 109 = .ok (.getfield 190, 3) := by decide +kernel
theorem dX10_reviewNow_112 : decode cX10_reviewNow 112 = .ok (.aaload, 1) := by decide +kernel
theorem dX10_reviewNow_113 : decode cX10_reviewNow 113 = .ok (.getfield 144, 3) := by decide +kernel
theorem dX10_reviewNow_116 : decode cX10_reviewNow 116 = .ok (.ifCond .eq 11, 3) := by decide +kernel
theorem dX10_reviewNow_119 : decode cX10_reviewNow 119 = .ok (.aload_n 0, 1) := by decide +kernel
theorem dX10_reviewNow_120 : decode cX10_reviewNow 120 = .ok (.getfield 42, 3) := by decide +kernel
theorem dX10_reviewNow_123 : decode cX10_reviewNow 123 = .ok (.iload_n 1, 1) := by decide +kernel
theorem dX10_reviewNow_124 : decode cX10_reviewNow 124 = .ok (.invokevirtual 317, 3) := by decide +kernel
theorem dX10_reviewNow_127 : decode cX10_reviewNow 127 = .ok (.iload_n 3, 1) := by decide +kernel
theorem dX10_reviewNow_128 : decode cX10_reviewNow 128 = .ok (.ireturn, 1) := by decide +kernel
theorem dX10_startAct_0 : decode cX10_startAct 0 = .ok (.aload_n 0, 1) := by decide +kernel
theorem dX10_startAct_1 : decode cX10_startAct 1 = .ok (.getfield 46, 3) := by decide +kernel
theorem dX10_startAct_4 : decode cX10_startAct 4 = .ok (.aload_n 0, 1) := by decide +kernel
theorem dX10_startAct_5 : decode cX10_startAct 5 = .ok (.getfield 320, 3) := by decide +kernel
theorem dX10_startAct_8 : decode cX10_startAct 8 = .ok (.aaload, 1) := by decide +kernel
theorem dX10_startAct_9 : decode cX10_startAct 9 = .ok (.aload_n 0, 1) := by decide +kernel
theorem dX10_startAct_10 : decode cX10_startAct 10 = .ok (.getfield 42, 3) := by decide +kernel
theorem dX10_startAct_13 : decode cX10_startAct 13 = .ok (.invokevirtual 323, 3) := by decide +kernel
theorem dX10_startAct_16 : decode cX10_startAct 16 = .ok (.aload_n 0, 1) := by decide +kernel
theorem dX10_startAct_17 : decode cX10_startAct 17 = .ok (.aload_n 0, 1) := by decide +kernel
theorem dX10_startAct_18 : decode cX10_startAct 18 = .ok (.getfield 320, 3) := by decide +kernel
theorem dX10_startAct_21 : decode cX10_startAct 21 = .ok (.iconst 1, 1) := by decide +kernel
theorem dX10_startAct_22 : decode cX10_startAct 22 = .ok (.iadd, 1) := by decide +kernel
theorem dX10_startAct_23 : decode cX10_startAct 23 = .ok (.bipush 12, 2) := by decide +kernel
theorem dX10_startAct_25 : decode cX10_startAct 25 = .ok (.irem, 1) := by decide +kernel
theorem dX10_startAct_26 : decode cX10_startAct 26 = .ok (.putfield 320, 3) := by decide +kernel
theorem dX10_startAct_29 : decode cX10_startAct 29 = .ok (.aload_n 0, 1) := by decide +kernel
theorem dX10_startAct_30 : decode cX10_startAct 30 = .ok (.aload_n 0, 1) := by decide +kernel
theorem dX10_startAct_31 : decode cX10_startAct 31 = .ok (.getfield 99, 3) := by decide +kernel
theorem dX10_startAct_34 : decode cX10_startAct 34 = .ok (.iconst 1, 1) := by decide +kernel
theorem dX10_startAct_35 : decode cX10_startAct 35 = .ok (.iadd, 1) := by decide +kernel
theorem dX10_startAct_36 : decode cX10_startAct 36 = .ok (.bipush 12, 2) := by decide +kernel
theorem dX10_startAct_38 : decode cX10_startAct 38 = .ok (.invokestatic 327, 3) := by decide +kernel
theorem dX10_startAct_41 : decode cX10_startAct 41 = .ok (.putfield 99, 3) := by decide +kernel
theorem dX10_startAct_44 : decode cX10_startAct 44 = .ok (.return_, 1) := by decide +kernel
theorem dX10_put_0 : decode cX10_put 0 = .ok (.aload_n 0, 1) := by decide +kernel
theorem dX10_put_1 : decode cX10_put 1 = .ok (.iload_n 1, 1) := by decide +kernel
theorem dX10_put_2 : decode cX10_put 2 = .ok (.invokevirtual 332, 3) := by decide +kernel
theorem dX10_put_5 : decode cX10_put 5 = .ok (.ifCond .eq 11, 3) := by decide +kernel
theorem dX10_put_8 : decode cX10_put 8 = .ok (.aload_n 0, 1) := by decide +kernel
theorem dX10_put_9 : decode cX10_put 9 = .ok (.iload_n 2, 1) := by decide +kernel
theorem dX10_put_10 : decode cX10_put 10 = .ok (.invokevirtual 184, 3) := by decide +kernel
theorem dX10_put_13 : decode cX10_put 13 = .ok (.ifCond .ne 5, 3) := by decide +kernel
theorem dX10_put_16 : decode cX10_put 16 = .ok (.iconst (-1), 1) := by decide +kernel
theorem dX10_put_17 : decode cX10_put 17 = .ok (.ireturn, 1) := by decide +kernel
theorem dX10_put_18 : decode cX10_put 18 = .ok (.iload_n 2, 1) := by decide +kernel
theorem dX10_put_19 : decode cX10_put 19 = .ok (.aload_n 0, 1) := by decide +kernel
theorem dX10_put_20 : decode cX10_put 20 = .ok (.getfield 42, 3) := by decide +kernel
theorem dX10_put_23 : decode cX10_put 23 = .ok (.getfield 166, 3) := by decide +kernel
theorem dX10_put_26 : decode cX10_put 26 = .ok (.if_icmp .ge 14, 3) := by decide +kernel
theorem dX10_put_29 : decode cX10_put 29 = .ok (.aload_n 0, 1) := by decide +kernel
theorem dX10_put_30 : decode cX10_put 30 = .ok (.getfield 42, 3) := by decide +kernel
theorem dX10_put_33 : decode cX10_put 33 = .ok (.iload_n 2, 1) := by decide +kernel
theorem dX10_put_34 : decode cX10_put 34 = .ok (.invokevirtual 200, 3) := by decide +kernel
theorem dX10_put_37 : decode cX10_put 37 = .ok (.ifCond .eq 6, 3) := by decide +kernel
theorem dX10_put_40 : decode cX10_put 40 = .ok (.bipush (-2), 2) := by decide +kernel
theorem dX10_put_42 : decode cX10_put 42 = .ok (.ireturn, 1) := by decide +kernel
theorem dX10_put_43 : decode cX10_put 43 = .ok (.aload_n 0, 1) := by decide +kernel
theorem dX10_put_44 : decode cX10_put 44 = .ok (.invokevirtual 279, 3) := by decide +kernel
theorem dX10_put_47 : decode cX10_put 47 = .ok (.aload_n 0, 1) := by decide +kernel
theorem dX10_put_48 : decode cX10_put 48 = .ok (.iload_n 1, 1) := by decide +kernel
theorem dX10_put_49 : decode cX10_put 49 = .ok (.iload_n 2, 1) := by decide +kernel
theorem dX10_put_50 : decode cX10_put 50 = .ok (.invokevirtual 335, 3) := by decide +kernel
theorem dX10_put_53 : decode cX10_put 53 = .ok (.istore_n 3, 1) := by decide +kernel
theorem dX10_put_54 : decode cX10_put 54 = .ok (.aload_n 0, 1) := by decide +kernel
theorem dX10_put_55 : decode cX10_put 55 = .ok (.getfield 42, 3) := by decide +kernel
theorem dX10_put_58 : decode cX10_put 58 = .ok (.dup, 1) := by decide +kernel
theorem dX10_put_59 : decode cX10_put 59 = .ok (.getfield 338, 3) := by decide +kernel
theorem dX10_put_62 : decode cX10_put 62 = .ok (.iconst 1, 1) := by decide +kernel
theorem dX10_put_63 : decode cX10_put 63 = .ok (.iload_n 2, 1) := by decide +kernel
theorem dX10_put_64 : decode cX10_put 64 = .ok (.ishl, 1) := by decide +kernel
theorem dX10_put_65 : decode cX10_put 65 = .ok (.ior, 1) := by decide +kernel
theorem dX10_put_66 : decode cX10_put 66 = .ok (.putfield 338, 3) := by decide +kernel
theorem dX10_put_69 : decode cX10_put 69 = .ok (.aload_n 0, 1) := by decide +kernel
theorem dX10_put_70 : decode cX10_put 70 = .ok (.getfield 42, 3) := by decide +kernel
theorem dX10_put_73 : decode cX10_put 73 = .ok (.iload_n 2, 1) := by decide +kernel
theorem dX10_put_74 : decode cX10_put 74 = .ok (.bipush 10, 2) := by decide +kernel
theorem dX10_put_76 : decode cX10_put 76 = .ok (.iload_n 1, 1) := by decide +kernel
theorem dX10_put_77 : decode cX10_put 77 = .ok (.iadd, 1) := by decide +kernel
theorem dX10_put_78 : decode cX10_put 78 = .ok (.iload_n 3, 1) := by decide +kernel
theorem dX10_put_79 : decode cX10_put 79 = .ok (.ifCond .eq 7, 3) := by decide +kernel
theorem dX10_put_82 : decode cX10_put 82 = .ok (.iconst 2, 1) := by decide +kernel
theorem dX10_put_83 : decode cX10_put 83 = .ok (.goto 4, 3) := by decide +kernel
theorem dX10_put_86 : decode cX10_put 86 = .ok (.iconst 0, 1) := by decide +kernel
theorem dX10_put_87 : decode cX10_put 87 = .ok (.iconst 0, 1) := by decide +kernel
theorem dX10_put_88 : decode cX10_put 88 = .ok (.invokevirtual 310, 3) := by decide +kernel
theorem dX10_put_91 : decode cX10_put 91 = .ok (.iload_n 3, 1) := by decide +kernel
theorem dX10_put_92 : decode cX10_put 92 = .ok (.ifCond .eq 19, 3) := by decide +kernel
theorem dX10_put_95 : decode cX10_put 95 = .ok (.aload_n 0, 1) := by decide +kernel
theorem dX10_put_96 : decode cX10_put 96 = .ok (.getfield 42, 3) := by decide +kernel
theorem dX10_put_99 : decode cX10_put 99 = .ok (.iload_n 2, 1) := by decide +kernel
theorem dX10_put_100 : decode cX10_put 100 = .ok (.invokevirtual 314, 3) := by decide +kernel
theorem dX10_put_103 : decode cX10_put 103 = .ok (.aload_n 0, 1) := by decide +kernel
theorem dX10_put_104 : decode cX10_put 104 = .ok (.getfield 42, 3) := by decide +kernel
theorem dX10_put_107 : decode cX10_put 107 = .ok (.iload_n 2, 1) := by decide +kernel
theorem dX10_put_108 : decode cX10_put 108 = .ok (.invokevirtual 341, 3) := by decide +kernel
theorem dX10_put_111 : decode cX10_put 111 = .ok (.iload_n 3, 1) := by decide +kernel
theorem dX10_put_112 : decode cX10_put 112 = .ok (.ifCond .eq 7, 3) := by decide +kernel
theorem dX10_put_115 : decode cX10_put 115 = .ok (.iconst 1, 1) := by decide +kernel
theorem dX10_put_116 : decode cX10_put 116 = .ok (.goto 4, 3) := by decide +kernel
theorem dX10_put_119 : decode cX10_put 119 = .ok (.iconst 0, 1) := by decide +kernel
theorem dX10_put_120 : decode cX10_put 120 = .ok (.ireturn, 1) := by decide +kernel
theorem dX10_wouldOverturn_0 : decode cX10_wouldOverturn 0 = .ok (.aload_n 0, 1) := by decide +kernel
theorem dX10_wouldOverturn_1 : decode cX10_wouldOverturn 1 = .ok (.getfield 16, 3) := by decide +kernel
theorem dX10_wouldOverturn_4 : decode cX10_wouldOverturn 4 = .ok (.getfield 344, 3) := by decide +kernel
theorem dX10_wouldOverturn_7 : decode cX10_wouldOverturn 7 = .ok (.iload_n 1, 1) := by decide +kernel
theorem dX10_wouldOverturn_8 : decode cX10_wouldOverturn 8 = .ok (.aaload, 1) := by decide +kernel
theorem dX10_wouldOverturn_9 : decode cX10_wouldOverturn 9 = .ok (.astore_n 3, 1) := by decide +kernel
theorem dX10_wouldOverturn_10 : decode cX10_wouldOverturn 10 = .ok (.aload_n 0, 1) := by decide +kernel
theorem dX10_wouldOverturn_11 : decode cX10_wouldOverturn 11 = .ok (.getfield 35, 3) := by decide +kernel
theorem dX10_wouldOverturn_14 : decode cX10_wouldOverturn 14 = .ok (.aload_n 0, 1) := by decide +kernel
theorem dX10_wouldOverturn_15 : decode cX10_wouldOverturn 15 = .ok (.getfield 16, 3) := by decide +kernel
theorem dX10_wouldOverturn_18 : decode cX10_wouldOverturn 18 = .ok (.aload_n 3, 1) := by decide +kernel
theorem dX10_wouldOverturn_19 : decode cX10_wouldOverturn 19 = .ok (.aload_n 0, 1) := by decide +kernel
theorem dX10_wouldOverturn_20 : decode cX10_wouldOverturn 20 = .ok (.getfield 16, 3) := by decide +kernel
theorem dX10_wouldOverturn_23 : decode cX10_wouldOverturn 23 = .ok (.getfield 169, 3) := by decide +kernel
theorem dX10_wouldOverturn_26 : decode cX10_wouldOverturn 26 = .ok (.iload_n 2, 1) := by decide +kernel
theorem dX10_wouldOverturn_27 : decode cX10_wouldOverturn 27 = .ok (.aaload, 1) := by decide +kernel
theorem dX10_wouldOverturn_28 : decode cX10_wouldOverturn 28 = .ok (.aload_n 0, 1) := by decide +kernel
theorem dX10_wouldOverturn_29 : decode cX10_wouldOverturn 29 = .ok (.iload_n 2, 1) := by decide +kernel
theorem dX10_wouldOverturn_30 : decode cX10_wouldOverturn 30 = .ok (.invokevirtual 267, 3) := by decide +kernel
theorem dX10_wouldOverturn_33 : decode cX10_wouldOverturn 33 = .ok (.invokevirtual 348, 3) := by decide +kernel
theorem dX10_wouldOverturn_36 : decode cX10_wouldOverturn 36 = .ok (.istore 4, 2) := by decide +kernel
theorem dX10_wouldOverturn_38 : decode cX10_wouldOverturn 38 = .ok (.iload 4, 2) := by decide +kernel
theorem dX10_wouldOverturn_40 : decode cX10_wouldOverturn 40 = .ok (.invokestatic 352, 3) := by decide +kernel
theorem dX10_wouldOverturn_43 : decode cX10_wouldOverturn 43 = .ok (.aload_n 3, 1) := by decide +kernel
theorem dX10_wouldOverturn_44 : decode cX10_wouldOverturn 44 = .ok (.getfield 357, 3) := by decide +kernel
theorem dX10_wouldOverturn_47 : decode cX10_wouldOverturn 47 = .ok (.if_icmp .lt 7, 3) := by decide +kernel
theorem dX10_wouldOverturn_50 : decode cX10_wouldOverturn 50 = .ok (.iconst 1, 1) := by decide +kernel
theorem dX10_wouldOverturn_51 : decode cX10_wouldOverturn 51 = .ok (.goto 4, 3) := by decide +kernel
theorem dX10_wouldOverturn_54 : decode cX10_wouldOverturn 54 = .ok (.iconst 0, 1) := by decide +kernel
theorem dX10_wouldOverturn_55 : decode cX10_wouldOverturn 55 = .ok (.ireturn, 1) := by decide +kernel
theorem dX10_votes_0 : decode cX10_votes 0 = .ok (.aload_n 0, 1) := by decide +kernel
theorem dX10_votes_1 : decode cX10_votes 1 = .ok (.iload_n 1, 1) := by decide +kernel
theorem dX10_votes_2 : decode cX10_votes 2 = .ok (.invokevirtual 332, 3) := by decide +kernel
theorem dX10_votes_5 : decode cX10_votes 5 = .ok (.ifCond .eq 11, 3) := by decide +kernel
theorem dX10_votes_8 : decode cX10_votes 8 = .ok (.aload_n 0, 1) := by decide +kernel
theorem dX10_votes_9 : decode cX10_votes 9 = .ok (.iload_n 2, 1) := by decide +kernel
theorem dX10_votes_10 : decode cX10_votes 10 = .ok (.invokevirtual 184, 3) := by decide +kernel
theorem dX10_votes_13 : decode cX10_votes 13 = .ok (.ifCond .ne 5, 3) := by decide +kernel
theorem dX10_votes_16 : decode cX10_votes 16 = .ok (.iconst (-1), 1) := by decide +kernel
theorem dX10_votes_17 : decode cX10_votes 17 = .ok (.ireturn, 1) := by decide +kernel
theorem dX10_votes_18 : decode cX10_votes 18 = .ok (.aload_n 0, 1) := by decide +kernel
theorem dX10_votes_19 : decode cX10_votes 19 = .ok (.getfield 35, 3) := by decide +kernel
theorem dX10_votes_22 : decode cX10_votes 22 = .ok (.aload_n 0, 1) := by decide +kernel
theorem dX10_votes_23 : decode cX10_votes 23 = .ok (.getfield 16, 3) := by decide +kernel
theorem dX10_votes_26 : decode cX10_votes 26 = .ok (.aload_n 0, 1) := by decide +kernel
theorem dX10_votes_27 : decode cX10_votes 27 = .ok (.getfield 16, 3) := by decide +kernel
theorem dX10_votes_30 : decode cX10_votes 30 = .ok (.getfield 344, 3) := by decide +kernel
theorem dX10_votes_33 : decode cX10_votes 33 = .ok (.iload_n 1, 1) := by decide +kernel
theorem dX10_votes_34 : decode cX10_votes 34 = .ok (.aaload, 1) := by decide +kernel
theorem dX10_votes_35 : decode cX10_votes 35 = .ok (.aload_n 0, 1) := by decide +kernel
theorem dX10_votes_36 : decode cX10_votes 36 = .ok (.getfield 16, 3) := by decide +kernel
theorem dX10_votes_39 : decode cX10_votes 39 = .ok (.getfield 169, 3) := by decide +kernel
theorem dX10_votes_42 : decode cX10_votes 42 = .ok (.iload_n 2, 1) := by decide +kernel
theorem dX10_votes_43 : decode cX10_votes 43 = .ok (.aaload, 1) := by decide +kernel
theorem dX10_votes_44 : decode cX10_votes 44 = .ok (.aload_n 0, 1) := by decide +kernel
theorem dX10_votes_45 : decode cX10_votes 45 = .ok (.iload_n 2, 1) := by decide +kernel
theorem dX10_votes_46 : decode cX10_votes 46 = .ok (.invokevirtual 267, 3) := by decide +kernel
theorem dX10_votes_49 : decode cX10_votes 49 = .ok (.invokevirtual 348, 3) := by decide +kernel
theorem dX10_votes_52 : decode cX10_votes 52 = .ok (.ireturn, 1) := by decide +kernel
theorem dX10_pivot_0 : decode cX10_pivot 0 = .ok (.aload_n 0, 1) := by decide +kernel
theorem dX10_pivot_1 : decode cX10_pivot 1 = .ok (.iload_n 1, 1) := by decide +kernel
theorem dX10_pivot_2 : decode cX10_pivot 2 = .ok (.invokevirtual 332, 3) := by decide +kernel
theorem dX10_pivot_5 : decode cX10_pivot 5 = .ok (.ifCond .eq 11, 3) := by decide +kernel
theorem dX10_pivot_8 : decode cX10_pivot 8 = .ok (.aload_n 0, 1) := by decide +kernel
theorem dX10_pivot_9 : decode cX10_pivot 9 = .ok (.iload_n 2, 1) := by decide +kernel
theorem dX10_pivot_10 : decode cX10_pivot 10 = .ok (.invokevirtual 184, 3) := by decide +kernel
theorem dX10_pivot_13 : decode cX10_pivot 13 = .ok (.ifCond .ne 5, 3) := by decide +kernel
theorem dX10_pivot_16 : decode cX10_pivot 16 = .ok (.iconst (-1), 1) := by decide +kernel
theorem dX10_pivot_17 : decode cX10_pivot 17 = .ok (.ireturn, 1) := by decide +kernel
theorem dX10_pivot_18 : decode cX10_pivot 18 = .ok (.aload_n 0, 1) := by decide +kernel
theorem dX10_pivot_19 : decode cX10_pivot 19 = .ok (.getfield 35, 3) := by decide +kernel
theorem dX10_pivot_22 : decode cX10_pivot 22 = .ok (.aload_n 0, 1) := by decide +kernel
theorem dX10_pivot_23 : decode cX10_pivot 23 = .ok (.getfield 16, 3) := by decide +kernel
theorem dX10_pivot_26 : decode cX10_pivot 26 = .ok (.aload_n 0, 1) := by decide +kernel
theorem dX10_pivot_27 : decode cX10_pivot 27 = .ok (.getfield 16, 3) := by decide +kernel
theorem dX10_pivot_30 : decode cX10_pivot 30 = .ok (.getfield 344, 3) := by decide +kernel
theorem dX10_pivot_33 : decode cX10_pivot 33 = .ok (.iload_n 1, 1) := by decide +kernel
theorem dX10_pivot_34 : decode cX10_pivot 34 = .ok (.aaload, 1) := by decide +kernel
theorem dX10_pivot_35 : decode cX10_pivot 35 = .ok (.aload_n 0, 1) := by decide +kernel
theorem dX10_pivot_36 : decode cX10_pivot 36 = .ok (.getfield 16, 3) := by decide +kernel
theorem dX10_pivot_39 : decode cX10_pivot 39 = .ok (.getfield 169, 3) := by decide +kernel
theorem dX10_pivot_42 : decode cX10_pivot 42 = .ok (.iload_n 2, 1) := by decide +kernel
theorem dX10_pivot_43 : decode cX10_pivot 43 = .ok (.aaload, 1) := by decide +kernel
theorem dX10_pivot_44 : decode cX10_pivot 44 = .ok (.aload_n 0, 1) := by decide +kernel
theorem dX10_pivot_45 : decode cX10_pivot 45 = .ok (.iload_n 2, 1) := by decide +kernel
theorem dX10_pivot_46 : decode cX10_pivot 46 = .ok (.invokevirtual 267, 3) := by decide +kernel
theorem dX10_pivot_49 : decode cX10_pivot 49 = .ok (.invokevirtual 348, 3) := by decide +kernel
theorem dX10_pivot_52 : decode cX10_pivot 52 = .ok (.istore_n 3, 1) := by decide +kernel
theorem dX10_pivot_53 : decode cX10_pivot 53 = .ok (.iload_n 3, 1) := by decide +kernel
theorem dX10_pivot_54 : decode cX10_pivot 54 = .ok (.invokestatic 352, 3) := by decide +kernel
theorem dX10_pivot_57 : decode cX10_pivot 57 = .ok (.aload_n 0, 1) := by decide +kernel
theorem dX10_pivot_58 : decode cX10_pivot 58 = .ok (.getfield 16, 3) := by decide +kernel
theorem dX10_pivot_61 : decode cX10_pivot 61 = .ok (.getfield 344, 3) := by decide +kernel
theorem dX10_pivot_64 : decode cX10_pivot 64 = .ok (.iload_n 1, 1) := by decide +kernel
theorem dX10_pivot_65 : decode cX10_pivot 65 = .ok (.aaload, 1) := by decide +kernel
theorem dX10_pivot_66 : decode cX10_pivot 66 = .ok (.getfield 357, 3) := by decide +kernel
theorem dX10_pivot_69 : decode cX10_pivot 69 = .ok (.if_icmp .ne 7, 3) := by decide +kernel
theorem dX10_pivot_72 : decode cX10_pivot 72 = .ok (.iload_n 3, 1) := by decide +kernel
theorem dX10_pivot_73 : decode cX10_pivot 73 = .ok (.goto 4, 3) := by decide +kernel
theorem dX10_pivot_76 : decode cX10_pivot 76 = .ok (.iconst 0, 1) := by decide +kernel
theorem dX10_pivot_77 : decode cX10_pivot 77 = .ok (.ireturn, 1) := by decide +kernel
theorem dX10_boards_0 : decode cX10_boards 0 = .ok (.aload_n 0, 1) := by decide +kernel
theorem dX10_boards_1 : decode cX10_boards 1 = .ok (.iload_n 1, 1) := by decide +kernel
theorem dX10_boards_2 : decode cX10_boards 2 = .ok (.invokevirtual 184, 3) := by decide +kernel
theorem dX10_boards_5 : decode cX10_boards 5 = .ok (.ifCond .ne 5, 3) := by decide +kernel
theorem dX10_boards_8 : decode cX10_boards 8 = .ok (.iconst (-1), 1) := by decide +kernel
theorem dX10_boards_9 : decode cX10_boards 9 = .ok (.ireturn, 1) := by decide +kernel
theorem dX10_boards_10 : decode cX10_boards 10 = .ok (.iconst 0, 1) := by decide +kernel
theorem dX10_boards_11 : decode cX10_boards 11 = .ok (.istore_n 2, 1) := by decide +kernel
theorem dX10_boards_12 : decode cX10_boards 12 = .ok (.iconst 0, 1) := by decide +kernel
theorem dX10_boards_13 : decode cX10_boards 13 = .ok (.istore_n 3, 1) := by decide +kernel
theorem dX10_boards_14 : decode cX10_boards 14 = .ok (.iload_n 3, 1) := by decide +kernel
theorem dX10_boards_15 : decode cX10_boards 15 = .ok (.aload_n 0, 1) := by decide +kernel
theorem dX10_boards_16 : decode cX10_boards 16 = .ok (.getfield 16, 3) := by decide +kernel
theorem dX10_boards_19 : decode cX10_boards 19 = .ok (.getfield 225, 3) := by decide +kernel
theorem dX10_boards_22 : decode cX10_boards 22 = .ok (.if_icmp .ge 24, 3) := by decide +kernel
theorem dX10_boards_25 : decode cX10_boards 25 = .ok (.aload_n 0, 1) := by decide +kernel
theorem dX10_boards_26 : decode cX10_boards 26 = .ok (.iload_n 3, 1) := by decide +kernel
theorem dX10_boards_27 : decode cX10_boards 27 = .ok (.iload_n 1, 1) := by decide +kernel
theorem dX10_boards_28 : decode cX10_boards 28 = .ok (.invokevirtual 335, 3) := by decide +kernel
theorem dX10_boards_31 : decode cX10_boards 31 = .ok (.ifCond .eq 9, 3) := by decide +kernel
theorem dX10_boards_34 : decode cX10_boards 34 = .ok (.iload_n 2, 1) := by decide +kernel
theorem dX10_boards_35 : decode cX10_boards 35 = .ok (.iconst 1, 1) := by decide +kernel
theorem dX10_boards_36 : decode cX10_boards 36 = .ok (.iload_n 3, 1) := by decide +kernel
theorem dX10_boards_37 : decode cX10_boards 37 = .ok (.ishl, 1) := by decide +kernel
theorem dX10_boards_38 : decode cX10_boards 38 = .ok (.ior, 1) := by decide +kernel
theorem dX10_boards_39 : decode cX10_boards 39 = .ok (.istore_n 2, 1) := by decide +kernel
theorem dX10_boards_40 : decode cX10_boards 40 = .ok (.iinc 3 1, 3) := by decide +kernel
theorem dX10_boards_43 : decode cX10_boards 43 = .ok (.goto (-29), 3) := by decide +kernel
theorem dX10_boards_46 : decode cX10_boards 46 = .ok (.iload_n 2, 1) := by decide +kernel
theorem dX10_boards_47 : decode cX10_boards 47 = .ok (.ireturn, 1) := by decide +kernel
theorem dX10_truth_0 : decode cX10_truth 0 = .ok (.aload_n 0, 1) := by decide +kernel
theorem dX10_truth_1 : decode cX10_truth 1 = .ok (.iload_n 1, 1) := by decide +kernel
theorem dX10_truth_2 : decode cX10_truth 2 = .ok (.invokevirtual 150, 3) := by decide +kernel
theorem dX10_truth_5 : decode cX10_truth 5 = .ok (.ifCond .eq 12, 3) := by decide +kernel
theorem dX10_truth_8 : decode cX10_truth 8 = .ok (.aload_n 0, 1) := by decide +kernel
theorem dX10_truth_9 : decode cX10_truth 9 = .ok (.iload_n 1, 1) := by decide +kernel
theorem dX10_truth_10 : decode cX10_truth 10 = .ok (.iconst (-1), 1) := by decide +kernel
theorem dX10_truth_11 : decode cX10_truth 11 = .ok (.invokevirtual 362, 3) := by decide +kernel
theorem dX10_truth_14 : decode cX10_truth 14 = .ok (.goto 4, 3) := by decide +kernel
theorem dX10_truth_17 : decode cX10_truth 17 = .ok (.iconst (-1), 1) := by decide +kernel
theorem dX10_truth_18 : decode cX10_truth 18 = .ok (.ireturn, 1) := by decide +kernel
theorem dX10_range_0 : decode cX10_range 0 = .ok (.aload_n 0, 1) := by decide +kernel
theorem dX10_range_1 : decode cX10_range 1 = .ok (.iload_n 1, 1) := by decide +kernel
theorem dX10_range_2 : decode cX10_range 2 = .ok (.invokevirtual 150, 3) := by decide +kernel
theorem dX10_range_5 : decode cX10_range 5 = .ok (.ifCond .eq 20, 3) := by decide +kernel
theorem dX10_range_8 : decode cX10_range 8 = .ok (.aload_n 0, 1) := by decide +kernel
theorem dX10_range_9 : decode cX10_range 9 = .ok (.iload_n 1, 1) := by decide +kernel
theorem dX10_range_10 : decode cX10_range 10 = .ok (.iload_n 2, 1) := by decide +kernel
theorem dX10_range_11 : decode cX10_range 11 = .ok (.ifCond .eq 7, 3) := by decide +kernel
theorem dX10_range_14 : decode cX10_range 14 = .ok (.iconst 1, 1) := by decide +kernel
theorem dX10_range_15 : decode cX10_range 15 = .ok (.goto 4, 3) := by decide +kernel
theorem dX10_range_18 : decode cX10_range 18 = .ok (.iconst 0, 1) := by decide +kernel
theorem dX10_range_19 : decode cX10_range 19 = .ok (.invokevirtual 362, 3) := by decide +kernel
theorem dX10_range_22 : decode cX10_range 22 = .ok (.goto 4, 3) := by decide +kernel
theorem dX10_range_25 : decode cX10_range 25 = .ok (.iconst (-1), 1) := by decide +kernel
theorem dX10_range_26 : decode cX10_range 26 = .ok (.ireturn, 1) := by decide +kernel
theorem dX10_pointsInTruth_0 : decode cX10_pointsInTruth 0 = .ok (.iconst 0, 1) := by decide +kernel
theorem dX10_pointsInTruth_1 : decode cX10_pointsInTruth 1 = .ok (.istore_n 3, 1) := by decide +kernel
theorem dX10_pointsInTruth_2 : decode cX10_pointsInTruth 2 = .ok (.iconst 0, 1) := by decide +kernel
theorem dX10_pointsInTruth_3 : decode cX10_pointsInTruth 3 = .ok (.istore 4, 2) := by decide +kernel
theorem dX10_pointsInTruth_5 : decode cX10_pointsInTruth 5 = .ok (.iload 4, 2) := by decide +kernel
theorem dX10_pointsInTruth_7 : decode cX10_pointsInTruth 7 = .ok (.aload_n 0, 1) := by decide +kernel
theorem dX10_pointsInTruth_8 : decode cX10_pointsInTruth 8 = .ok (.getfield 16, 3) := by decide +kernel
theorem dX10_pointsInTruth_11 : decode cX10_pointsInTruth 11 = .ok (.getfield 102, 3) := by decide +kernel
theorem dX10_pointsInTruth_14 : decode cX10_pointsInTruth 14 = .ok (.if_icmp .ge 73, 3) := by decide +kernel
theorem dX10_pointsInTruth_17 : decode cX10_pointsInTruth 17 = .ok (.aload_n 0, 1) := by decide +kernel
theorem dX10_pointsInTruth_18 : decode cX10_pointsInTruth 18 = .ok (.getfield 16, 3) := by decide +kernel
theorem dX10_pointsInTruth_21 : decode cX10_pointsInTruth 21 = .ok (.getfield 169, 3) := by decide +kernel
theorem dX10_pointsInTruth_24 : decode cX10_pointsInTruth 24 = .ok (.iload 4, 2) := by decide +kernel
theorem dX10_pointsInTruth_26 : decode cX10_pointsInTruth 26 = .ok (.aaload, 1) := by decide +kernel
theorem dX10_pointsInTruth_27 : decode cX10_pointsInTruth 27 = .ok (.astore 5, 2) := by decide +kernel
theorem dX10_pointsInTruth_29 : decode cX10_pointsInTruth 29 = .ok (.iload_n 2, 1) := by decide +kernel
theorem dX10_pointsInTruth_30 : decode cX10_pointsInTruth 30 = .ok (.iconst (-1), 1) := by decide +kernel
theorem dX10_pointsInTruth_31 : decode cX10_pointsInTruth 31 = .ok (.if_icmp .ne 11, 3) := by decide +kernel
theorem dX10_pointsInTruth_34 : decode cX10_pointsInTruth 34 = .ok (.aload 5, 2) := by decide +kernel
theorem dX10_pointsInTruth_36 : decode cX10_pointsInTruth 36 = .ok (.getfield 192, 3) := by decide +kernel
theorem dX10_pointsInTruth_39 : decode cX10_pointsInTruth 39 = .ok (.goto 4, 3) := by decide +kernel
theorem dX10_pointsInTruth_42 : decode cX10_pointsInTruth 42 = .ok (.iload_n 2, 1) := by decide +kernel
theorem dX10_pointsInTruth_43 : decode cX10_pointsInTruth 43 = .ok (.istore 6, 2) := by decide +kernel
theorem dX10_pointsInTruth_45 : decode cX10_pointsInTruth 45 = .ok (.aload 5, 2) := by decide +kernel
theorem dX10_pointsInTruth_47 : decode cX10_pointsInTruth 47 = .ok (.getfield 173, 3) := by decide +kernel
theorem dX10_pointsInTruth_50 : decode cX10_pointsInTruth 50 = .ok (.iload_n 1, 1) := by decide +kernel
theorem dX10_pointsInTruth_51 : decode cX10_pointsInTruth 51 = .ok (.if_icmp .ne 30, 3) := by decide +kernel
theorem dX10_pointsInTruth_54 : decode cX10_pointsInTruth 54 = .ok (.aload_n 0, 1) := by decide +kernel
theorem dX10_pointsInTruth_55 : decode cX10_pointsInTruth 55 = .ok (.getfield 35, 3) := by decide +kernel
theorem dX10_pointsInTruth_58 : decode cX10_pointsInTruth 58 = .ok (.aload_n 0, 1) := by decide +kernel
theorem dX10_pointsInTruth_59 : decode cX10_pointsInTruth 59 = .ok (.getfield 16, 3) := by decide +kernel
theorem dX10_pointsInTruth_62 : decode cX10_pointsInTruth 62 = .ok (.aload 5, 2) := by decide +kernel
theorem dX10_pointsInTruth_64 : decode cX10_pointsInTruth 64 = .ok (.iload 6, 2) := by decide +kernel
theorem dX10_pointsInTruth_66 : decode cX10_pointsInTruth 66 = .ok (.invokevirtual 365, 3) := by decide +kernel
theorem dX10_pointsInTruth_69 : decode cX10_pointsInTruth 69 = .ok (.iconst 1, 1) := by decide +kernel
theorem dX10_pointsInTruth_70 : decode cX10_pointsInTruth 70 = .ok (.if_icmp .ne 11, 3) := by decide +kernel
theorem dX10_pointsInTruth_73 : decode cX10_pointsInTruth 73 = .ok (.iload_n 3, 1) := by decide +kernel
theorem dX10_pointsInTruth_74 : decode cX10_pointsInTruth 74 = .ok (.aload 5, 2) := by decide +kernel
theorem dX10_pointsInTruth_76 : decode cX10_pointsInTruth 76 = .ok (.getfield 181, 3) := by decide +kernel
theorem dX10_pointsInTruth_79 : decode cX10_pointsInTruth 79 = .ok (.iadd, 1) := by decide +kernel
theorem dX10_pointsInTruth_80 : decode cX10_pointsInTruth 80 = .ok (.istore_n 3, 1) := by decide +kernel
theorem dX10_pointsInTruth_81 : decode cX10_pointsInTruth 81 = .ok (.iinc 4 1, 3) := by decide +kernel
theorem dX10_pointsInTruth_84 : decode cX10_pointsInTruth 84 = .ok (.goto (-79), 3) := by decide +kernel
theorem dX10_pointsInTruth_87 : decode cX10_pointsInTruth 87 = .ok (.iload_n 3, 1) := by decide +kernel
theorem dX10_pointsInTruth_88 : decode cX10_pointsInTruth 88 = .ok (.ireturn, 1) := by decide +kernel
theorem dX10_wrong_0 : decode cX10_wrong 0 = .ok (.iconst 0, 1) := by decide +kernel
theorem dX10_wrong_1 : decode cX10_wrong 1 = .ok (.istore_n 1, 1) := by decide +kernel
theorem dX10_wrong_2 : decode cX10_wrong 2 = .ok (.iconst 0, 1) := by decide +kernel
theorem dX10_wrong_3 : decode cX10_wrong 3 = .ok (.istore_n 2, 1) := by decide +kernel
theorem dX10_wrong_4 : decode cX10_wrong 4 = .ok (.iload_n 2, 1) := by decide +kernel
theorem dX10_wrong_5 : decode cX10_wrong 5 = .ok (.aload_n 0, 1) := by decide +kernel
theorem dX10_wrong_6 : decode cX10_wrong 6 = .ok (.getfield 16, 3) := by decide +kernel
theorem dX10_wrong_9 : decode cX10_wrong 9 = .ok (.getfield 102, 3) := by decide +kernel
theorem dX10_wrong_12 : decode cX10_wrong 12 = .ok (.if_icmp .ge 48, 3) := by decide +kernel
theorem dX10_wrong_15 : decode cX10_wrong 15 = .ok (.aload_n 0, 1) := by decide +kernel
theorem dX10_wrong_16 : decode cX10_wrong 16 = .ok (.getfield 16, 3) := by decide +kernel
theorem dX10_wrong_19 : decode cX10_wrong 19 = .ok (.getfield 169, 3) := by decide +kernel
theorem dX10_wrong_22 : decode cX10_wrong 22 = .ok (.iload_n 2, 1) := by decide +kernel
theorem dX10_wrong_23 : decode cX10_wrong 23 = .ok (.aaload, 1) := by decide +kernel
theorem dX10_wrong_24 : decode cX10_wrong 24 = .ok (.astore_n 3, 1) := by decide +kernel
theorem dX10_wrong_25 : decode cX10_wrong 25 = .ok (.aload_n 0, 1) := by decide +kernel
theorem dX10_wrong_26 : decode cX10_wrong 26 = .ok (.getfield 35, 3) := by decide +kernel
theorem dX10_wrong_29 : decode cX10_wrong 29 = .ok (.aload_n 0, 1) := by decide +kernel
theorem dX10_wrong_30 : decode cX10_wrong 30 = .ok (.getfield 16, 3) := by decide +kernel
theorem dX10_wrong_33 : decode cX10_wrong 33 = .ok (.aload_n 3, 1) := by decide +kernel
theorem dX10_wrong_34 : decode cX10_wrong 34 = .ok (.aload_n 3, 1) := by decide +kernel
theorem dX10_wrong_35 : decode cX10_wrong 35 = .ok (.getfield 192, 3) := by decide +kernel
theorem dX10_wrong_38 : decode cX10_wrong 38 = .ok (.invokevirtual 365, 3) := by decide +kernel
theorem dX10_wrong_41 : decode cX10_wrong 41 = .ok (.aload_n 3, 1) := by decide +kernel
theorem dX10_wrong_42 : decode cX10_wrong 42 = .ok (.getfield 192, 3) := by decide +kernel
theorem dX10_wrong_45 : decode cX10_wrong 45 = .ok (.if_icmp .eq 9, 3) := by decide +kernel
theorem dX10_wrong_48 : decode cX10_wrong 48 = .ok (.iload_n 1, 1) := by decide +kernel
theorem dX10_wrong_49 : decode cX10_wrong 49 = .ok (.iconst 1, 1) := by decide +kernel
theorem dX10_wrong_50 : decode cX10_wrong 50 = .ok (.iload_n 2, 1) := by decide +kernel
theorem dX10_wrong_51 : decode cX10_wrong 51 = .ok (.ishl, 1) := by decide +kernel
theorem dX10_wrong_52 : decode cX10_wrong 52 = .ok (.ior, 1) := by decide +kernel
theorem dX10_wrong_53 : decode cX10_wrong 53 = .ok (.istore_n 1, 1) := by decide +kernel
theorem dX10_wrong_54 : decode cX10_wrong 54 = .ok (.iinc 2 1, 3) := by decide +kernel
theorem dX10_wrong_57 : decode cX10_wrong 57 = .ok (.goto (-53), 3) := by decide +kernel
theorem dX10_wrong_60 : decode cX10_wrong 60 = .ok (.iload_n 1, 1) := by decide +kernel
theorem dX10_wrong_61 : decode cX10_wrong 61 = .ok (.ireturn, 1) := by decide +kernel
theorem dX10_left_0 : decode cX10_left 0 = .ok (.aload_n 0, 1) := by decide +kernel
theorem dX10_left_1 : decode cX10_left 1 = .ok (.iload_n 1, 1) := by decide +kernel
theorem dX10_left_2 : decode cX10_left 2 = .ok (.invokevirtual 150, 3) := by decide +kernel
theorem dX10_left_5 : decode cX10_left 5 = .ok (.ifCond .ne 5, 3) := by decide +kernel
theorem dX10_left_8 : decode cX10_left 8 = .ok (.iconst (-1), 1) := by decide +kernel
theorem dX10_left_9 : decode cX10_left 9 = .ok (.ireturn, 1) := by decide +kernel
theorem dX10_left_10 : decode cX10_left 10 = .ok (.iconst 0, 1) := by decide +kernel
theorem dX10_left_11 : decode cX10_left 11 = .ok (.istore_n 2, 1) := by decide +kernel
theorem dX10_left_12 : decode cX10_left 12 = .ok (.iconst 0, 1) := by decide +kernel
theorem dX10_left_13 : decode cX10_left 13 = .ok (.istore_n 3, 1) := by decide +kernel
theorem dX10_left_14 : decode cX10_left 14 = .ok (.iload_n 3, 1) := by decide +kernel
theorem dX10_left_15 : decode cX10_left 15 = .ok (.aload_n 0, 1) := by decide +kernel
theorem dX10_left_16 : decode cX10_left 16 = .ok (.getfield 16, 3) := by decide +kernel
theorem dX10_left_19 : decode cX10_left 19 = .ok (.getfield 102, 3) := by decide +kernel
theorem dX10_left_22 : decode cX10_left 22 = .ok (.if_icmp .ge 49, 3) := by decide +kernel
theorem dX10_left_25 : decode cX10_left 25 = .ok (.aload_n 0, 1) := by decide +kernel
theorem dX10_left_26 : decode cX10_left 26 = .ok (.getfield 16, 3) := by decide +kernel
theorem dX10_left_29 : decode cX10_left 29 = .ok (.getfield 169, 3) := by decide +kernel
theorem dX10_left_32 : decode cX10_left 32 = .ok (.iload_n 3, 1) := by decide +kernel
theorem dX10_left_33 : decode cX10_left 33 = .ok (.aaload, 1) := by decide +kernel
theorem dX10_left_34 : decode cX10_left 34 = .ok (.getfield 173, 3) := by decide +kernel
theorem dX10_left_37 : decode cX10_left 37 = .ok (.iload_n 1, 1) := by decide +kernel
theorem dX10_left_38 : decode cX10_left 38 = .ok (.if_icmp .ne 27, 3) := by decide +kernel
theorem dX10_left_41 : decode cX10_left 41 = .ok (.aload_n 0, 1) := by decide +kernel
theorem dX10_left_42 : decode cX10_left 42 = .ok (.iload_n 3, 1) := by decide +kernel
theorem dX10_left_43 : decode cX10_left 43 = .ok (.invokevirtual 368, 3) := by decide +kernel
theorem dX10_left_46 : decode cX10_left 46 = .ok (.iconst 1, 1) := by decide +kernel
theorem dX10_left_47 : decode cX10_left 47 = .ok (.if_icmp .ne 18, 3) := by decide +kernel
theorem dX10_left_50 : decode cX10_left 50 = .ok (.iload_n 2, 1) := by decide +kernel
theorem dX10_left_51 : decode cX10_left 51 = .ok (.aload_n 0, 1) := by decide +kernel
theorem dX10_left_52 : decode cX10_left 52 = .ok (.getfield 16, 3) := by decide +kernel
theorem dX10_left_55 : decode cX10_left 55 = .ok (.getfield 169, 3) := by decide +kernel
theorem dX10_left_58 : decode cX10_left 58 = .ok (.iload_n 3, 1) := by decide +kernel
theorem dX10_left_59 : decode cX10_left 59 = .ok (.aaload, 1) := by decide +kernel
theorem dX10_left_60 : decode cX10_left 60 = .ok (.getfield 181, 3) := by decide +kernel
theorem dX10_left_63 : decode cX10_left 63 = .ok (.iadd, 1) := by decide +kernel
theorem dX10_left_64 : decode cX10_left 64 = .ok (.istore_n 2, 1) := by decide +kernel
theorem dX10_left_65 : decode cX10_left 65 = .ok (.iinc 3 1, 3) := by decide +kernel
theorem dX10_left_68 : decode cX10_left 68 = .ok (.goto (-54), 3) := by decide +kernel
theorem dX10_left_71 : decode cX10_left 71 = .ok (.iload_n 2, 1) := by decide +kernel
theorem dX10_left_72 : decode cX10_left 72 = .ok (.ireturn, 1) := by decide +kernel
theorem dX10_callUnchallenged_0 : decode cX10_callUnchallenged 0 = .ok (.aload_n 0, 1) := by decide +kernel
theorem dX10_callUnchallenged_1 : decode cX10_callUnchallenged 1 = .ok (.getfield 16, 3) := by decide +kernel
theorem dX10_callUnchallenged_4 : decode cX10_callUnchallenged 4 = .ok (.getfield 169, 3) := by decide +kernel
theorem dX10_callUnchallenged_7 : decode cX10_callUnchallenged 7 = .ok (.iload_n 1, 1) := by decide +kernel
theorem dX10_callUnchallenged_8 : decode cX10_callUnchallenged 8 = .ok (.aaload, 1) := by decide +kernel
theorem dX10_callUnchallenged_9 : decode cX10_callUnchallenged 9 = .ok (.astore_n 2, 1) := by decide +kernel
theorem dX10_callUnchallenged_10 : decode cX10_callUnchallenged 10 = .ok (.aload_n 0, 1) := by decide +kernel
theorem dX10_callUnchallenged_11 : decode cX10_callUnchallenged 11 = .ok (.getfield 16, 3) := by decide +kernel
theorem dX10_callUnchallenged_14 : decode cX10_callUnchallenged 14 = .ok (.iload_n 1, 1) := by decide +kernel
theorem dX10_callUnchallenged_15 : decode cX10_callUnchallenged 15 = .ok (.invokevirtual 286, 3) := by decide +kernel
theorem dX10_callUnchallenged_18 : decode cX10_callUnchallenged 18 = .ok (.ifCond .eq 27, 3) := by decide +kernel
theorem dX10_callUnchallenged_21 : decode cX10_callUnchallenged 21 = .ok (.aload_n 0, 1) := by decide +kernel
theorem dX10_callUnchallenged_22 : decode cX10_callUnchallenged 22 = .ok (.getfield 35, 3) := by decide +kernel
theorem dX10_callUnchallenged_25 : decode cX10_callUnchallenged 25 = .ok (.aload_n 0, 1) := by decide +kernel
theorem dX10_callUnchallenged_26 : decode cX10_callUnchallenged 26 = .ok (.getfield 16, 3) := by decide +kernel
theorem dX10_callUnchallenged_29 : decode cX10_callUnchallenged 29 = .ok (.aload_n 2, 1) := by decide +kernel
theorem dX10_callUnchallenged_30 : decode cX10_callUnchallenged 30 = .ok (.aload_n 2, 1) := by decide +kernel
theorem dX10_callUnchallenged_31 : decode cX10_callUnchallenged 31 = .ok (.getfield 192, 3) := by decide +kernel
theorem dX10_callUnchallenged_34 : decode cX10_callUnchallenged 34 = .ok (.invokevirtual 270, 3) := by decide +kernel
theorem dX10_callUnchallenged_37 : decode cX10_callUnchallenged 37 = .ok (.iconst 2, 1) := by decide +kernel
theorem dX10_callUnchallenged_38 : decode cX10_callUnchallenged 38 = .ok (.if_icmp .ne 7, 3) := by decide +kernel
theorem dX10_callUnchallenged_41 : decode cX10_callUnchallenged 41 = .ok (.iconst 1, 1) := by decide +kernel
theorem dX10_callUnchallenged_42 : decode cX10_callUnchallenged 42 = .ok (.goto 4, 3) := by decide +kernel
theorem dX10_callUnchallenged_45 : decode cX10_callUnchallenged 45 = .ok (.iconst 0, 1) := by decide +kernel
theorem dX10_callUnchallenged_46 : decode cX10_callUnchallenged 46 = .ok (.istore_n 3, 1) := by decide +kernel
theorem dX10_callUnchallenged_47 : decode cX10_callUnchallenged 47 = .ok (.iload_n 3, 1) := by decide +kernel
theorem dX10_callUnchallenged_48 : decode cX10_callUnchallenged 48 = .ok (.ifCond .eq 12, 3) := by decide +kernel
theorem dX10_callUnchallenged_51 : decode cX10_callUnchallenged 51 = .ok (.iconst 1, 1) := by decide +kernel
theorem dX10_callUnchallenged_52 : decode cX10_callUnchallenged 52 = .ok (.aload_n 2, 1) := by decide +kernel
theorem dX10_callUnchallenged_53 : decode cX10_callUnchallenged 53 = .ok (.getfield 192, 3) := by decide +kernel
theorem dX10_callUnchallenged_56 : decode cX10_callUnchallenged 56 = .ok (.isub, 1) := by decide +kernel
theorem dX10_callUnchallenged_57 : decode cX10_callUnchallenged 57 = .ok (.goto 7, 3) := by decide +kernel
theorem dX10_callUnchallenged_60 : decode cX10_callUnchallenged 60 = .ok (.aload_n 2, 1) := by decide +kernel
theorem dX10_callUnchallenged_61 : decode cX10_callUnchallenged 61 = .ok (.getfield 192, 3) := by decide +kernel
theorem dX10_callUnchallenged_64 : decode cX10_callUnchallenged 64 = .ok (.ireturn, 1) := by decide +kernel
theorem dX10_need_0 : decode cX10_need 0 = .ok (.aload_n 0, 1) := by decide +kernel
theorem dX10_need_1 : decode cX10_need 1 = .ok (.iload_n 1, 1) := by decide +kernel
theorem dX10_need_2 : decode cX10_need 2 = .ok (.invokevirtual 150, 3) := by decide +kernel
theorem dX10_need_5 : decode cX10_need 5 = .ok (.ifCond .ne 5, 3) := by decide +kernel
theorem dX10_need_8 : decode cX10_need 8 = .ok (.iconst (-1), 1) := by decide +kernel
theorem dX10_need_9 : decode cX10_need 9 = .ok (.ireturn, 1) := by decide +kernel
theorem dX10_need_10 : decode cX10_need 10 = .ok (.iconst 0, 1) := by decide +kernel
theorem dX10_need_11 : decode cX10_need 11 = .ok (.istore_n 2, 1) := by decide +kernel
theorem dX10_need_12 : decode cX10_need 12 = .ok (.iconst 0, 1) := by decide +kernel
theorem dX10_need_13 : decode cX10_need 13 = .ok (.istore_n 3, 1) := by decide +kernel
theorem dX10_need_14 : decode cX10_need 14 = .ok (.iconst 0, 1) := by decide +kernel
theorem dX10_need_15 : decode cX10_need 15 = .ok (.istore 4, 2) := by decide +kernel
theorem dX10_need_17 : decode cX10_need 17 = .ok (.iload 4, 2) := by decide +kernel
theorem dX10_need_19 : decode cX10_need 19 = .ok (.aload_n 0, 1) := by decide +kernel
theorem dX10_need_20 : decode cX10_need 20 = .ok (.getfield 16, 3) := by decide +kernel
theorem dX10_need_23 : decode cX10_need 23 = .ok (.getfield 102, 3) := by decide +kernel
theorem dX10_need_26 : decode cX10_need 26 = .ok (.if_icmp .ge 90, 3) := by decide +kernel
theorem dX10_need_29 : decode cX10_need 29 = .ok (.iload_n 1, 1) := by decide +kernel
theorem dX10_need_30 : decode cX10_need 30 = .ok (.aload_n 0, 1) := by decide +kernel
theorem dX10_need_31 : decode cX10_need 31 = .ok (.getfield 16, 3) := by decide +kernel
theorem dX10_need_34 : decode cX10_need 34 = .ok (.getfield 169, 3) := by decide +kernel
theorem dX10_need_37 : decode cX10_need 37 = .ok (.iload 4, 2) := by decide +kernel
theorem dX10_need_39 : decode cX10_need 39 = .ok (.aaload, 1) := by decide +kernel
theorem dX10_need_40 : decode cX10_need 40 = .ok (.invokestatic 371, 3) := by decide +kernel
theorem dX10_need_43 : decode cX10_need 43 = .ok (.ifCond .eq 67, 3) := by decide +kernel
theorem dX10_need_46 : decode cX10_need 46 = .ok (.aload_n 0, 1) := by decide +kernel
theorem dX10_need_47 : decode cX10_need 47 = .ok (.getfield 16, 3) := by decide +kernel
theorem dX10_need_50 : decode cX10_need 50 = .ok (.iload 4, 2) := by decide +kernel
theorem dX10_need_52 : decode cX10_need 52 = .ok (.invokevirtual 286, 3) := by decide +kernel
theorem dX10_need_55 : decode cX10_need 55 = .ok (.ifCond .ne 55, 3) := by decide +kernel
theorem dX10_need_58 : decode cX10_need 58 = .ok (.iload_n 2, 1) := by decide +kernel
theorem dX10_need_59 : decode cX10_need 59 = .ok (.iconst 1, 1) := by decide +kernel
theorem dX10_need_60 : decode cX10_need 60 = .ok (.iload 4, 2) := by decide +kernel
theorem dX10_need_62 : decode cX10_need 62 = .ok (.ishl, 1) := by decide +kernel
theorem dX10_need_63 : decode cX10_need 63 = .ok (.ior, 1) := by decide +kernel
theorem dX10_need_64 : decode cX10_need 64 = .ok (.istore_n 2, 1) := by decide +kernel
theorem dX10_need_65 : decode cX10_need 65 = .ok (.aload_n 0, 1) := by decide +kernel
theorem dX10_need_66 : decode cX10_need 66 = .ok (.getfield 35, 3) := by decide +kernel
theorem dX10_need_69 : decode cX10_need 69 = .ok (.aload_n 0, 1) := by decide +kernel
theorem dX10_need_70 : decode cX10_need 70 = .ok (.getfield 16, 3) := by decide +kernel
theorem dX10_need_73 : decode cX10_need 73 = .ok (.aload_n 0, 1) := by decide +kernel
theorem dX10_need_74 : decode cX10_need 74 = .ok (.getfield 16, 3) := by decide +kernel
theorem dX10_need_77 : decode cX10_need 77 = .ok (.getfield 169, 3) := by decide +kernel
theorem dX10_need_80 : decode cX10_need 80 = .ok (.iload 4, 2) := by decide +kernel
theorem dX10_need_82 : decode cX10_need 82 = .ok (.aaload, 1) := by decide +kernel
theorem dX10_need_83 : decode cX10_need 83 = .ok (.aload_n 0, 1) := by decide +kernel
theorem dX10_need_84 : decode cX10_need 84 = .ok (.getfield 16, 3) := by decide +kernel
theorem dX10_need_87 : decode cX10_need 87 = .ok (.getfield 169, 3) := by decide +kernel
theorem dX10_need_90 : decode cX10_need 90 = .ok (.iload 4, 2) := by decide +kernel
theorem dX10_need_92 : decode cX10_need 92 = .ok (.aaload, 1) := by decide +kernel
theorem dX10_need_93 : decode cX10_need 93 = .ok (.getfield 192, 3) := by decide +kernel
theorem dX10_need_96 : decode cX10_need 96 = .ok (.invokevirtual 270, 3) := by decide +kernel
theorem dX10_need_99 : decode cX10_need 99 = .ok (.iconst 2, 1) := by decide +kernel
theorem dX10_need_100 : decode cX10_need 100 = .ok (.if_icmp .ne 10, 3) := by decide +kernel
theorem dX10_need_103 : decode cX10_need 103 = .ok (.iload_n 3, 1) := by decide +kernel
theorem dX10_need_104 : decode cX10_need 104 = .ok (.iconst 1, 1) := by decide +kernel
theorem dX10_need_105 : decode cX10_need 105 = .ok (.iload 4, 2) := by decide +kernel
theorem dX10_need_107 : decode cX10_need 107 = .ok (.ishl, 1) := by decide +kernel
theorem dX10_need_108 : decode cX10_need 108 = .ok (.ior, 1) := by decide +kernel
theorem dX10_need_109 : decode cX10_need 109 = .ok (.istore_n 3, 1) := by decide +kernel
theorem dX10_need_110 : decode cX10_need 110 = .ok (.iinc 4 1, 3) := by decide +kernel
theorem dX10_need_113 : decode cX10_need 113 = .ok (.goto (-96), 3) := by decide +kernel
theorem dX10_need_116 : decode cX10_need 116 = .ok (.iconst 0, 1) := by decide +kernel
theorem dX10_need_117 : decode cX10_need 117 = .ok (.istore 4, 2) := by decide +kernel
theorem dX10_need_119 : decode cX10_need 119 = .ok (.iload 4, 2) := by decide +kernel
theorem dX10_need_121 : decode cX10_need 121 = .ok (.bipush 9, 2) := by decide +kernel
theorem dX10_need_123 : decode cX10_need 123 = .ok (.if_icmp .ge 23, 3) := by decide +kernel
theorem dX10_need_126 : decode cX10_need 126 = .ok (.aload_n 0, 1) := by decide +kernel
theorem dX10_need_127 : decode cX10_need 127 = .ok (.iload 4, 2) := by decide +kernel
theorem dX10_need_129 : decode cX10_need 129 = .ok (.iload_n 2, 1) := by decide +kernel
theorem dX10_need_130 : decode cX10_need 130 = .ok (.iload_n 3, 1) := by decide +kernel
theorem dX10_need_131 : decode cX10_need 131 = .ok (.invokevirtual 375, 3) := by decide +kernel
theorem dX10_need_134 : decode cX10_need 134 = .ok (.ifCond .eq 6, 3) := by decide +kernel
theorem dX10_need_137 : decode cX10_need 137 = .ok (.iload 4, 2) := by decide +kernel
theorem dX10_need_139 : decode cX10_need 139 = .ok (.ireturn, 1) := by decide +kernel
theorem dX10_need_140 : decode cX10_need 140 = .ok (.iinc 4 1, 3) := by decide +kernel
theorem dX10_need_143 : decode cX10_need 143 = .ok (.goto (-24), 3) := by decide +kernel
theorem dX10_need_146 : decode cX10_need 146 = .ok (.bipush 9, 2) := by decide +kernel
theorem dX10_need_148 : decode cX10_need 148 = .ok (.ireturn, 1) := by decide +kernel
theorem dX10_isAgainst_0 : decode cX10_isAgainst 0 = .ok (.aload_n 1, 1) := by decide +kernel
theorem dX10_isAgainst_1 : decode cX10_isAgainst 1 = .ok (.getfield 173, 3) := by decide +kernel
theorem dX10_isAgainst_4 : decode cX10_isAgainst 4 = .ok (.iload_n 0, 1) := by decide +kernel
theorem dX10_isAgainst_5 : decode cX10_isAgainst 5 = .ok (.if_icmp .ne 18, 3) := by decide +kernel
theorem dX10_isAgainst_8 : decode cX10_isAgainst 8 = .ok (.aload_n 1, 1) := by decide +kernel
theorem dX10_isAgainst_9 : decode cX10_isAgainst 9 = .ok (.getfield 192, 3) := by decide +kernel
theorem dX10_isAgainst_12 : decode cX10_isAgainst 12 = .ok (.ifCond .ne 7, 3) := by decide +kernel
theorem dX10_isAgainst_15 : decode cX10_isAgainst 15 = .ok (.iconst 1, 1) := by decide +kernel
theorem dX10_isAgainst_16 : decode cX10_isAgainst 16 = .ok (.goto 20, 3) := by decide +kernel
theorem dX10_isAgainst_19 : decode cX10_isAgainst 19 = .ok (.iconst 0, 1) := by decide +kernel
theorem dX10_isAgainst_20 : decode cX10_isAgainst 20 = .ok (.goto 16, 3) := by decide +kernel
theorem dX10_isAgainst_23 : decode cX10_isAgainst 23 = .ok (.aload_n 1, 1) := by decide +kernel
theorem dX10_isAgainst_24 : decode cX10_isAgainst 24 = .ok (.getfield 192, 3) := by decide +kernel
theorem dX10_isAgainst_27 : decode cX10_isAgainst 27 = .ok (.iconst 1, 1) := by decide +kernel
theorem dX10_isAgainst_28 : decode cX10_isAgainst 28 = .ok (.if_icmp .ne 7, 3) := by decide +kernel
theorem dX10_isAgainst_31 : decode cX10_isAgainst 31 = .ok (.iconst 1, 1) := by decide +kernel
theorem dX10_isAgainst_32 : decode cX10_isAgainst 32 = .ok (.goto 4, 3) := by decide +kernel
theorem dX10_isAgainst_35 : decode cX10_isAgainst 35 = .ok (.iconst 0, 1) := by decide +kernel
theorem dX10_isAgainst_36 : decode cX10_isAgainst 36 = .ok (.ireturn, 1) := by decide +kernel
theorem dX10_neverLacks_0 : decode cX10_neverLacks 0 = .ok (.iload_n 1, 1) := by decide +kernel
theorem dX10_neverLacks_1 : decode cX10_neverLacks 1 = .ok (.istore 4, 2) := by decide +kernel
theorem dX10_neverLacks_3 : decode cX10_neverLacks 3 = .ok (.iconst 0, 1) := by decide +kernel
theorem dX10_neverLacks_4 : decode cX10_neverLacks 4 = .ok (.istore 5, 2) := by decide +kernel
theorem dX10_neverLacks_6 : decode cX10_neverLacks 6 = .ok (.iconst 0, 1) := by decide +kernel
theorem dX10_neverLacks_7 : decode cX10_neverLacks 7 = .ok (.istore 6, 2) := by decide +kernel
theorem dX10_neverLacks_9 : decode cX10_neverLacks 9 = .ok (.iload 6, 2) := by decide +kernel
theorem dX10_neverLacks_11 : decode cX10_neverLacks 11 = .ok (.aload_n 0, 1) := by decide +kernel
theorem dX10_neverLacks_12 : decode cX10_neverLacks 12 = .ok (.getfield 16, 3) := by decide +kernel
theorem dX10_neverLacks_15 : decode cX10_neverLacks 15 = .ok (.getfield 102, 3) := by decide +kernel
theorem dX10_neverLacks_18 : decode cX10_neverLacks 18 = .ok (.if_icmp .ge 59, 3) := by decide +kernel
theorem dX10_neverLacks_21 : decode cX10_neverLacks 21 = .ok (.iload_n 2, 1) := by decide +kernel
theorem dX10_neverLacks_22 : decode cX10_neverLacks 22 = .ok (.iload 6, 2) := by decide +kernel
theorem dX10_neverLacks_24 : decode cX10_neverLacks 24 = .ok (.ishr, 1) := by decide +kernel
theorem dX10_neverLacks_25 : decode cX10_neverLacks 25 = .ok (.iconst 1, 1) := by decide +kernel
theorem dX10_neverLacks_26 : decode cX10_neverLacks 26 = .ok (.iand, 1) := by decide +kernel
theorem dX10_neverLacks_27 : decode cX10_neverLacks 27 = .ok (.ifCond .ne 6, 3) := by decide +kernel
theorem dX10_neverLacks_30 : decode cX10_neverLacks 30 = .ok (.goto 41, 3) := by decide +kernel
theorem dX10_neverLacks_33 : decode cX10_neverLacks 33 = .ok (.iload 4, 2) := by decide +kernel
theorem dX10_neverLacks_35 : decode cX10_neverLacks 35 = .ok (.ifCond .ne 5, 3) := by decide +kernel
theorem dX10_neverLacks_38 : decode cX10_neverLacks 38 = .ok (.iconst 0, 1) := by decide +kernel
theorem dX10_neverLacks_39 : decode cX10_neverLacks 39 = .ok (.ireturn, 1) := by decide +kernel
theorem dX10_neverLacks_40 : decode cX10_neverLacks 40 = .ok (.iload_n 3, 1) := by decide +kernel
theorem dX10_neverLacks_41 : decode cX10_neverLacks 41 = .ok (.iload 6, 2) := by decide +kernel
theorem dX10_neverLacks_43 : decode cX10_neverLacks 43 = .ok (.ishr, 1) := by decide +kernel
theorem dX10_neverLacks_44 : decode cX10_neverLacks 44 = .ok (.iconst 1, 1) := by decide +kernel
theorem dX10_neverLacks_45 : decode cX10_neverLacks 45 = .ok (.iand, 1) := by decide +kernel
theorem dX10_neverLacks_46 : decode cX10_neverLacks 46 = .ok (.ifCond .eq 22, 3) := by decide +kernel
theorem dX10_neverLacks_49 : decode cX10_neverLacks 49 = .ok (.iinc 5 1, 3) := by decide +kernel
theorem dX10_neverLacks_52 : decode cX10_neverLacks 52 = .ok (.aload_n 0, 1) := by decide +kernel
theorem dX10_neverLacks_53 : decode cX10_neverLacks 53 = .ok (.getfield 16, 3) := by decide +kernel
theorem dX10_neverLacks_56 : decode cX10_neverLacks 56 = .ok (.iload 4, 2) := by decide +kernel
theorem dX10_neverLacks_58 : decode cX10_neverLacks 58 = .ok (.iload 5, 2) := by decide +kernel
theorem dX10_neverLacks_60 : decode cX10_neverLacks 60 = .ok (.invokevirtual 296, 3) := by decide +kernel
theorem dX10_neverLacks_63 : decode cX10_neverLacks 63 = .ok (.istore 4, 2) := by decide +kernel
theorem dX10_neverLacks_65 : decode cX10_neverLacks 65 = .ok (.goto 6, 3) := by decide +kernel
theorem dX10_neverLacks_68 : decode cX10_neverLacks 68 = .ok (.iinc 4 (-1), 3) := by decide +kernel
theorem dX10_neverLacks_71 : decode cX10_neverLacks 71 = .ok (.iinc 6 1, 3) := by decide +kernel
theorem dX10_neverLacks_74 : decode cX10_neverLacks 74 = .ok (.goto (-65), 3) := by decide +kernel
theorem dX10_neverLacks_77 : decode cX10_neverLacks 77 = .ok (.iconst 1, 1) := by decide +kernel
theorem dX10_neverLacks_78 : decode cX10_neverLacks 78 = .ok (.ireturn, 1) := by decide +kernel
theorem dX10_seconds_0 : decode cX10_seconds 0 = .ok (.iload_n 1, 1) := by decide +kernel
theorem dX10_seconds_1 : decode cX10_seconds 1 = .ok (.ifCond .lt 18, 3) := by decide +kernel
theorem dX10_seconds_4 : decode cX10_seconds 4 = .ok (.iload_n 1, 1) := by decide +kernel
theorem dX10_seconds_5 : decode cX10_seconds 5 = .ok (.sipush 999, 3) := by decide +kernel
theorem dX10_seconds_8 : decode cX10_seconds 8 = .ok (.if_icmp .gt 11, 3) := by decide +kernel
theorem dX10_seconds_11 : decode cX10_seconds 11 = .ok (.aload_n 0, 1) := by decide +kernel
theorem dX10_seconds_12 : decode cX10_seconds 12 = .ok (.iload_n 1, 1) := by decide +kernel
theorem dX10_seconds_13 : decode cX10_seconds 13 = .ok (.invokevirtual 379, 3) := by decide +kernel
theorem dX10_seconds_16 : decode cX10_seconds 16 = .ok (.goto 4, 3) := by decide +kernel
theorem dX10_seconds_19 : decode cX10_seconds 19 = .ok (.iconst (-1), 1) := by decide +kernel
theorem dX10_seconds_20 : decode cX10_seconds 20 = .ok (.ireturn, 1) := by decide +kernel
theorem dX10_secondsOf_0 : decode cX10_secondsOf 0 = .ok (.iconst 0, 1) := by decide +kernel
theorem dX10_secondsOf_1 : decode cX10_secondsOf 1 = .ok (.istore_n 2, 1) := by decide +kernel
theorem dX10_secondsOf_2 : decode cX10_secondsOf 2 = .ok (.iconst 0, 1) := by decide +kernel
theorem dX10_secondsOf_3 : decode cX10_secondsOf 3 = .ok (.istore_n 3, 1) := by decide +kernel
theorem dX10_secondsOf_4 : decode cX10_secondsOf 4 = .ok (.iload_n 3, 1) := by decide +kernel
theorem dX10_secondsOf_5 : decode cX10_secondsOf 5 = .ok (.aload_n 0, 1) := by decide +kernel
theorem dX10_secondsOf_6 : decode cX10_secondsOf 6 = .ok (.getfield 16, 3) := by decide +kernel
theorem dX10_secondsOf_9 : decode cX10_secondsOf 9 = .ok (.getfield 102, 3) := by decide +kernel
theorem dX10_secondsOf_12 : decode cX10_secondsOf 12 = .ok (.if_icmp .ge 37, 3) := by decide +kernel
theorem dX10_secondsOf_15 : decode cX10_secondsOf 15 = .ok (.aload_n 0, 1) := by decide +kernel
theorem dX10_secondsOf_16 : decode cX10_secondsOf 16 = .ok (.getfield 16, 3) := by decide +kernel
theorem dX10_secondsOf_19 : decode cX10_secondsOf 19 = .ok (.getfield 169, 3) := by decide +kernel
theorem dX10_secondsOf_22 : decode cX10_secondsOf 22 = .ok (.iload_n 3, 1) := by decide +kernel
theorem dX10_secondsOf_23 : decode cX10_secondsOf 23 = .ok (.aaload, 1) := by decide +kernel
theorem dX10_secondsOf_24 : decode cX10_secondsOf 24 = .ok (.getfield 187, 3) := by decide +kernel
theorem dX10_secondsOf_27 : decode cX10_secondsOf 27 = .ok (.iload_n 1, 1) := by decide +kernel
theorem dX10_secondsOf_28 : decode cX10_secondsOf 28 = .ok (.if_icmp .ne 15, 3) := by decide +kernel
theorem dX10_secondsOf_31 : decode cX10_secondsOf 31 = .ok (.iload_n 2, 1) := by decide +kernel
theorem dX10_secondsOf_32 : decode cX10_secondsOf 32 = .ok (.aload_n 0, 1) := by decide +kernel
theorem dX10_secondsOf_33 : decode cX10_secondsOf 33 = .ok (.getfield 42, 3) := by decide +kernel
theorem dX10_secondsOf_36 : decode cX10_secondsOf 36 = .ok (.getfield 308, 3) := by decide +kernel
theorem dX10_secondsOf_39 : decode cX10_secondsOf 39 = .ok (.iload_n 3, 1) := by decide +kernel
theorem dX10_secondsOf_40 : decode cX10_secondsOf 40 = .ok (.iaload, 1) := by decide +kernel
theorem dX10_secondsOf_41 : decode cX10_secondsOf 41 = .ok (.iadd, 1) := by decide +kernel
theorem dX10_secondsOf_42 : decode cX10_secondsOf 42 = .ok (.istore_n 2, 1) := by decide +kernel
theorem dX10_secondsOf_43 : decode cX10_secondsOf 43 = .ok (.iinc 3 1, 3) := by decide +kernel
theorem dX10_secondsOf_46 : decode cX10_secondsOf 46 = .ok (.goto (-42), 3) := by decide +kernel
theorem dX10_secondsOf_49 : decode cX10_secondsOf 49 = .ok (.iload_n 2, 1) := by decide +kernel
theorem dX10_secondsOf_50 : decode cX10_secondsOf 50 = .ok (.ireturn, 1) := by decide +kernel
theorem dX10_extra_0 : decode cX10_extra 0 = .ok (.iconst 0, 1) := by decide +kernel
theorem dX10_extra_1 : decode cX10_extra 1 = .ok (.istore_n 1, 1) := by decide +kernel
theorem dX10_extra_2 : decode cX10_extra 2 = .ok (.iconst 0, 1) := by decide +kernel
theorem dX10_extra_3 : decode cX10_extra 3 = .ok (.istore_n 2, 1) := by decide +kernel
theorem dX10_extra_4 : decode cX10_extra 4 = .ok (.iload_n 2, 1) := by decide +kernel
theorem dX10_extra_5 : decode cX10_extra 5 = .ok (.aload_n 0, 1) := by decide +kernel
theorem dX10_extra_6 : decode cX10_extra 6 = .ok (.getfield 16, 3) := by decide +kernel
theorem dX10_extra_9 : decode cX10_extra 9 = .ok (.getfield 102, 3) := by decide +kernel
theorem dX10_extra_12 : decode cX10_extra 12 = .ok (.if_icmp .ge 58, 3) := by decide +kernel
theorem dX10_extra_15 : decode cX10_extra 15 = .ok (.aload_n 0, 1) := by decide +kernel
theorem dX10_extra_16 : decode cX10_extra 16 = .ok (.getfield 16, 3) := by decide +kernel
theorem dX10_extra_19 : decode cX10_extra 19 = .ok (.getfield 169, 3) := by decide +kernel
theorem dX10_extra_22 : decode cX10_extra 22 = .ok (.iload_n 2, 1) := by decide +kernel
theorem dX10_extra_23 : decode cX10_extra 23 = .ok (.aaload, 1) := by decide +kernel
theorem dX10_extra_24 : decode cX10_extra 24 = .ok (.getfield 187, 3) := by decide +kernel
theorem dX10_extra_27 : decode cX10_extra 27 = .ok (.istore_n 3, 1) := by decide +kernel
theorem dX10_extra_28 : decode cX10_extra 28 = .ok (.iload_n 2, 1) := by decide +kernel
theorem dX10_extra_29 : decode cX10_extra 29 = .ok (.ifCond .eq 21, 3) := by decide +kernel
theorem dX10_extra_32 : decode cX10_extra 32 = .ok (.aload_n 0, 1) := by decide +kernel
theorem dX10_extra_33 : decode cX10_extra 33 = .ok (.getfield 16, 3) := by decide +kernel
theorem dX10_extra_36 : decode cX10_extra 36 = .ok (.getfield 169, 3) := by decide +kernel
theorem dX10_extra_39 : decode cX10_extra 39 = .ok (.iload_n 2, 1) := by decide +kernel
theorem dX10_extra_40 : decode cX10_extra 40 = .ok (.iconst 1, 1) := by decide +kernel
theorem dX10_extra_41 : decode cX10_extra 41 = .ok (.isub, 1) := by decide +kernel
theorem dX10_extra_42 : decode cX10_extra 42 = .ok (.aaload, 1) := by decide +kernel
theorem dX10_extra_43 : decode cX10_extra 43 = .ok (.getfield 187, 3) := by decide +kernel
theorem dX10_extra_46 : decode cX10_extra 46 = .ok (.iload_n 3, 1) := by decide +kernel
theorem dX10_extra_47 : decode cX10_extra 47 = .ok (.if_icmp .eq 17, 3) := by decide +kernel
theorem dX10_extra_50 : decode cX10_extra 50 = .ok (.iload_n 1, 1) := by decide +kernel
theorem dX10_extra_51 : decode cX10_extra 51 = .ok (.aload_n 0, 1) := by decide +kernel
theorem dX10_extra_52 : decode cX10_extra 52 = .ok (.iload_n 3, 1) := by decide +kernel
theorem dX10_extra_53 : decode cX10_extra 53 = .ok (.invokevirtual 379, 3) := by decide +kernel
theorem dX10_extra_56 : decode cX10_extra 56 = .ok (.bipush 59, 2) := by decide +kernel
theorem dX10_extra_58 : decode cX10_extra 58 = .ok (.iadd, 1) := by decide +kernel
theorem dX10_extra_59 : decode cX10_extra 59 = .ok (.bipush 60, 2) := by decide +kernel
theorem dX10_extra_61 : decode cX10_extra 61 = .ok (.idiv, 1) := by decide +kernel
theorem dX10_extra_62 : decode cX10_extra 62 = .ok (.iadd, 1) := by decide +kernel
theorem dX10_extra_63 : decode cX10_extra 63 = .ok (.istore_n 1, 1) := by decide +kernel
theorem dX10_extra_64 : decode cX10_extra 64 = .ok (.iinc 2 1, 3) := by decide +kernel
theorem dX10_extra_67 : decode cX10_extra 67 = .ok (.goto (-63), 3) := by decide +kernel
theorem dX10_extra_70 : decode cX10_extra 70 = .ok (.iload_n 1, 1) := by decide +kernel
theorem dX10_extra_71 : decode cX10_extra 71 = .ok (.ireturn, 1) := by decide +kernel
theorem dX10_log_0 : decode cX10_log 0 = .ok (.iload_n 1, 1) := by decide +kernel
theorem dX10_log_1 : decode cX10_log 1 = .ok (.ifCond .lt 23, 3) := by decide +kernel
theorem dX10_log_4 : decode cX10_log 4 = .ok (.iload_n 1, 1) := by decide +kernel
theorem dX10_log_5 : decode cX10_log 5 = .ok (.aload_n 0, 1) := by decide +kernel
theorem dX10_log_6 : decode cX10_log 6 = .ok (.getfield 42, 3) := by decide +kernel
theorem dX10_log_9 : decode cX10_log 9 = .ok (.getfield 382, 3) := by decide +kernel
theorem dX10_log_12 : decode cX10_log 12 = .ok (.if_icmp .ge 12, 3) := by decide +kernel
theorem dX10_log_15 : decode cX10_log 15 = .ok (.iload_n 2, 1) := by decide +kernel
theorem dX10_log_16 : decode cX10_log 16 = .ok (.ifCond .lt 8, 3) := by decide +kernel
theorem dX10_log_19 : decode cX10_log 19 = .ok (.iload_n 2, 1) := by decide +kernel
theorem dX10_log_20 : decode cX10_log 20 = .ok (.iconst 4, 1) := by decide +kernel
theorem dX10_log_21 : decode cX10_log 21 = .ok (.if_icmp .lt 14, 3) := by decide +kernel
theorem dX10_log_24 : decode cX10_log 24 = .ok (.new 203, 3) := by decide +kernel
theorem dX10_log_27 : decode cX10_log 27 = .ok (.dup, 1) := by decide +kernel
theorem dX10_log_28 : decode cX10_log 28 = .ok (.ldc_w 385, 3) := by decide +kernel
theorem dX10_log_31 : decode cX10_log 31 = .ok (.invokespecial 207, 3) := by decide +kernel
theorem dX10_log_34 : decode cX10_log 34 = .ok (.athrow, 1) := by decide +kernel
theorem dX10_log_35 : decode cX10_log 35 = .ok (.aload_n 0, 1) := by decide +kernel
theorem dX10_log_36 : decode cX10_log 36 = .ok (.getfield 42, 3) := by decide +kernel
theorem dX10_log_39 : decode cX10_log 39 = .ok (.getfield 387, 3) := by decide +kernel
theorem dX10_log_42 : decode cX10_log 42 = .ok (.iload_n 1, 1) := by decide +kernel
theorem dX10_log_43 : decode cX10_log 43 = .ok (.iconst 4, 1) := by decide +kernel
theorem dX10_log_44 : decode cX10_log 44 = .ok (.imul, 1) := by decide +kernel
theorem dX10_log_45 : decode cX10_log 45 = .ok (.iload_n 2, 1) := by decide +kernel
theorem dX10_log_46 : decode cX10_log 46 = .ok (.iadd, 1) := by decide +kernel
theorem dX10_log_47 : decode cX10_log 47 = .ok (.iaload, 1) := by decide +kernel
theorem dX10_log_48 : decode cX10_log 48 = .ok (.ireturn, 1) := by decide +kernel
theorem dX10_sheet_0 : decode cX10_sheet 0 = .ok (.iload_n 1, 1) := by decide +kernel
theorem dX10_sheet_1 : decode cX10_sheet 1 = .ok (.ifCond .lt 23, 3) := by decide +kernel
theorem dX10_sheet_4 : decode cX10_sheet 4 = .ok (.iload_n 1, 1) := by decide +kernel
theorem dX10_sheet_5 : decode cX10_sheet 5 = .ok (.iconst 2, 1) := by decide +kernel
theorem dX10_sheet_6 : decode cX10_sheet 6 = .ok (.if_icmp .gt 18, 3) := by decide +kernel
theorem dX10_sheet_9 : decode cX10_sheet 9 = .ok (.iload_n 2, 1) := by decide +kernel
theorem dX10_sheet_10 : decode cX10_sheet 10 = .ok (.ifCond .lt 14, 3) := by decide +kernel
theorem dX10_sheet_13 : decode cX10_sheet 13 = .ok (.iload_n 3, 1) := by decide +kernel
theorem dX10_sheet_14 : decode cX10_sheet 14 = .ok (.aload_n 0, 1) := by decide +kernel
theorem dX10_sheet_15 : decode cX10_sheet 15 = .ok (.getfield 42, 3) := by decide +kernel
theorem dX10_sheet_18 : decode cX10_sheet 18 = .ok (.getfield 382, 3) := by decide +kernel
theorem dX10_sheet_21 : decode cX10_sheet 21 = .ok (.if_icmp .le 5, 3) := by decide +kernel
theorem dX10_sheet_24 : decode cX10_sheet 24 = .ok (.iconst (-1), 1) := by decide +kernel
theorem dX10_sheet_25 : decode cX10_sheet 25 = .ok (.ireturn, 1) := by decide +kernel
theorem dX10_sheet_26 : decode cX10_sheet 26 = .ok (.iload_n 3, 1) := by decide +kernel
theorem dX10_sheet_27 : decode cX10_sheet 27 = .ok (.iload_n 2, 1) := by decide +kernel
theorem dX10_sheet_28 : decode cX10_sheet 28 = .ok (.if_icmp .ge 6, 3) := by decide +kernel
theorem dX10_sheet_31 : decode cX10_sheet 31 = .ok (.bipush (-2), 2) := by decide +kernel
theorem dX10_sheet_33 : decode cX10_sheet 33 = .ok (.ireturn, 1) := by decide +kernel
theorem dX10_sheet_34 : decode cX10_sheet 34 = .ok (.iload_n 2, 1) := by decide +kernel
theorem dX10_sheet_35 : decode cX10_sheet 35 = .ok (.istore 4, 2) := by decide +kernel
theorem dX10_sheet_37 : decode cX10_sheet 37 = .ok (.iload 4, 2) := by decide +kernel
theorem dX10_sheet_39 : decode cX10_sheet 39 = .ok (.iload_n 3, 1) := by decide +kernel
theorem dX10_sheet_40 : decode cX10_sheet 40 = .ok (.if_icmp .ge 36, 3) := by decide +kernel
theorem dX10_sheet_43 : decode cX10_sheet 43 = .ok (.aload_n 0, 1) := by decide +kernel
theorem dX10_sheet_44 : decode cX10_sheet 44 = .ok (.getfield 57, 3) := by decide +kernel
theorem dX10_sheet_47 : decode cX10_sheet 47 = .ok (.iload 4, 2) := by decide +kernel
theorem dX10_sheet_49 : decode cX10_sheet 49 = .ok (.iload_n 2, 1) := by decide +kernel
theorem dX10_sheet_50 : decode cX10_sheet 50 = .ok (.isub, 1) := by decide +kernel
theorem dX10_sheet_51 : decode cX10_sheet 51 = .ok (.iload_n 1, 1) := by decide +kernel
theorem dX10_sheet_52 : decode cX10_sheet 52 = .ok (.aload_n 0, 1) := by decide +kernel
theorem dX10_sheet_53 : decode cX10_sheet 53 = .ok (.getfield 42, 3) := by decide +kernel
theorem dX10_sheet_56 : decode cX10_sheet 56 = .ok (.getfield 387, 3) := by decide +kernel
theorem dX10_sheet_59 : decode cX10_sheet 59 = .ok (.iload 4, 2) := by decide +kernel
theorem dX10_sheet_61 : decode cX10_sheet 61 = .ok (.iconst 4, 1) := by decide +kernel
theorem dX10_sheet_62 : decode cX10_sheet 62 = .ok (.imul, 1) := by decide +kernel
theorem dX10_sheet_63 : decode cX10_sheet 63 = .ok (.iconst 3, 1) := by decide +kernel
theorem dX10_sheet_64 : decode cX10_sheet 64 = .ok (.iadd, 1) := by decide +kernel
theorem dX10_sheet_65 : decode cX10_sheet 65 = .ok (.iaload, 1) := by decide +kernel
theorem dX10_sheet_66 : decode cX10_sheet 66 = .ok (.invokestatic 390, 3) := by decide +kernel
theorem dX10_sheet_69 : decode cX10_sheet 69 = .ok (.iastore, 1) := by decide +kernel
theorem dX10_sheet_70 : decode cX10_sheet 70 = .ok (.iinc 4 1, 3) := by decide +kernel
theorem dX10_sheet_73 : decode cX10_sheet 73 = .ok (.goto (-36), 3) := by decide +kernel
theorem dX10_sheet_76 : decode cX10_sheet 76 = .ok (.aload_n 0, 1) := by decide +kernel
theorem dX10_sheet_77 : decode cX10_sheet 77 = .ok (.iload_n 3, 1) := by decide +kernel
theorem dX10_sheet_78 : decode cX10_sheet 78 = .ok (.iload_n 2, 1) := by decide +kernel
theorem dX10_sheet_79 : decode cX10_sheet 79 = .ok (.isub, 1) := by decide +kernel
theorem dX10_sheet_80 : decode cX10_sheet 80 = .ok (.putfield 393, 3) := by decide +kernel
theorem dX10_sheet_83 : decode cX10_sheet 83 = .ok (.aload_n 0, 1) := by decide +kernel
theorem dX10_sheet_84 : decode cX10_sheet 84 = .ok (.getfield 393, 3) := by decide +kernel
theorem dX10_sheet_87 : decode cX10_sheet 87 = .ok (.ireturn, 1) := by decide +kernel
theorem dX10_narrowed_0 : decode cX10_narrowed 0 = .ok (.iload_n 0, 1) := by decide +kernel
theorem dX10_narrowed_1 : decode cX10_narrowed 1 = .ok (.ifCond .ne 6, 3) := by decide +kernel
theorem dX10_narrowed_4 : decode cX10_narrowed 4 = .ok (.iload_n 1, 1) := by decide +kernel
theorem dX10_narrowed_5 : decode cX10_narrowed 5 = .ok (.i2b, 1) := by decide +kernel
theorem dX10_narrowed_6 : decode cX10_narrowed 6 = .ok (.ireturn, 1) := by decide +kernel
theorem dX10_narrowed_7 : decode cX10_narrowed 7 = .ok (.iload_n 0, 1) := by decide +kernel
theorem dX10_narrowed_8 : decode cX10_narrowed 8 = .ok (.iconst 1, 1) := by decide +kernel
theorem dX10_narrowed_9 : decode cX10_narrowed 9 = .ok (.if_icmp .ne 8, 3) := by decide +kernel
theorem dX10_narrowed_12 : decode cX10_narrowed 12 = .ok (.iload_n 1, 1) := by decide +kernel
theorem dX10_narrowed_13 : decode cX10_narrowed 13 = .ok (.i2s, 1) := by decide +kernel
theorem dX10_narrowed_14 : decode cX10_narrowed 14 = .ok (.goto 4, 3) := by decide +kernel
theorem dX10_narrowed_17 : decode cX10_narrowed 17 = .ok (.iload_n 1, 1) := by decide +kernel
theorem dX10_narrowed_18 : decode cX10_narrowed 18 = .ok (.ireturn, 1) := by decide +kernel
theorem dX10_row_0 : decode cX10_row 0 = .ok (.iload_n 1, 1) := by decide +kernel
theorem dX10_row_1 : decode cX10_row 1 = .ok (.ifCond .lt 11, 3) := by decide +kernel
theorem dX10_row_4 : decode cX10_row 4 = .ok (.iload_n 1, 1) := by decide +kernel
theorem dX10_row_5 : decode cX10_row 5 = .ok (.aload_n 0, 1) := by decide +kernel
theorem dX10_row_6 : decode cX10_row 6 = .ok (.getfield 393, 3) := by decide +kernel
theorem dX10_row_9 : decode cX10_row 9 = .ok (.if_icmp .lt 14, 3) := by decide +kernel
theorem dX10_row_12 : decode cX10_row 12 = .ok (.new 203, 3) := by decide +kernel
theorem dX10_row_15 : decode cX10_row 15 = .ok (.dup, 1) := by decide +kernel
theorem dX10_row_16 : decode cX10_row 16 = .ok (.ldc_w 396, 3) := by decide +kernel
theorem dX10_row_19 : decode cX10_row 19 = .ok (.invokespecial 207, 3) := by decide +kernel
theorem dX10_row_22 : decode cX10_row 22 = .ok (.athrow, 1) := by decide +kernel
theorem dX10_row_23 : decode cX10_row 23 = .ok (.aload_n 0, 1) := by decide +kernel
theorem dX10_row_24 : decode cX10_row 24 = .ok (.getfield 57, 3) := by decide +kernel
theorem dX10_row_27 : decode cX10_row 27 = .ok (.iload_n 1, 1) := by decide +kernel
theorem dX10_row_28 : decode cX10_row 28 = .ok (.iaload, 1) := by decide +kernel
theorem dX10_row_29 : decode cX10_row 29 = .ok (.ireturn, 1) := by decide +kernel
theorem dX10_undo_0 : decode cX10_undo 0 = .ok (.aload_n 0, 1) := by decide +kernel
theorem dX10_undo_1 : decode cX10_undo 1 = .ok (.getfield 99, 3) := by decide +kernel
theorem dX10_undo_4 : decode cX10_undo 4 = .ok (.ifCond .ne 5, 3) := by decide +kernel
theorem dX10_undo_7 : decode cX10_undo 7 = .ok (.iconst (-1), 1) := by decide +kernel
theorem dX10_undo_8 : decode cX10_undo 8 = .ok (.ireturn, 1) := by decide +kernel
theorem dX10_undo_9 : decode cX10_undo 9 = .ok (.aload_n 0, 1) := by decide +kernel
theorem dX10_undo_10 : decode cX10_undo 10 = .ok (.aload_n 0, 1) := by decide +kernel
theorem dX10_undo_11 : decode cX10_undo 11 = .ok (.getfield 320, 3) := by decide +kernel
theorem dX10_undo_14 : decode cX10_undo 14 = .ok (.bipush 12, 2) := by decide +kernel
theorem dX10_undo_16 : decode cX10_undo 16 = .ok (.iadd, 1) := by decide +kernel
theorem dX10_undo_17 : decode cX10_undo 17 = .ok (.iconst 1, 1) := by decide +kernel
theorem dX10_undo_18 : decode cX10_undo 18 = .ok (.isub, 1) := by decide +kernel
theorem dX10_undo_19 : decode cX10_undo 19 = .ok (.bipush 12, 2) := by decide +kernel
theorem dX10_undo_21 : decode cX10_undo 21 = .ok (.irem, 1) := by decide +kernel
theorem dX10_undo_22 : decode cX10_undo 22 = .ok (.putfield 320, 3) := by decide +kernel
theorem dX10_undo_25 : decode cX10_undo 25 = .ok (.aload_n 0, 1) := by decide +kernel
theorem dX10_undo_26 : decode cX10_undo 26 = .ok (.getfield 42, 3) := by decide +kernel
theorem dX10_undo_29 : decode cX10_undo 29 = .ok (.aload_n 0, 1) := by decide +kernel
theorem dX10_undo_30 : decode cX10_undo 30 = .ok (.getfield 46, 3) := by decide +kernel
theorem dX10_undo_33 : decode cX10_undo 33 = .ok (.aload_n 0, 1) := by decide +kernel
theorem dX10_undo_34 : decode cX10_undo 34 = .ok (.getfield 320, 3) := by decide +kernel
theorem dX10_undo_37 : decode cX10_undo 37 = .ok (.aaload, 1) := by decide +kernel
theorem dX10_undo_38 : decode cX10_undo 38 = .ok (.invokevirtual 323, 3) := by decide +kernel
theorem dX10_undo_41 : decode cX10_undo 41 = .ok (.aload_n 0, 1) := by decide +kernel
theorem dX10_undo_42 : decode cX10_undo 42 = .ok (.dup, 1) := by decide +kernel
theorem dX10_undo_43 : decode cX10_undo 43 = .ok (.getfield 99, 3) := by decide +kernel
theorem dX10_undo_46 : decode cX10_undo 46 = .ok (.iconst 1, 1) := by decide +kernel
theorem dX10_undo_47 : decode cX10_undo 47 = .ok (.isub, 1) := by decide +kernel
theorem dX10_undo_48 : decode cX10_undo 48 = .ok (.putfield 99, 3) := by decide +kernel
theorem dX10_undo_51 : decode cX10_undo 51 = .ok (.aload_n 0, 1) := by decide +kernel
theorem dX10_undo_52 : decode cX10_undo 52 = .ok (.getfield 99, 3) := by decide +kernel
theorem dX10_undo_55 : decode cX10_undo 55 = .ok (.ireturn, 1) := by decide +kernel
theorem dX10_keep_0 : decode cX10_keep 0 = .ok (.iload_n 1, 1) := by decide +kernel
theorem dX10_keep_1 : decode cX10_keep 1 = .ok (.ifCond .lt 8, 3) := by decide +kernel
theorem dX10_keep_4 : decode cX10_keep 4 = .ok (.iload_n 1, 1) := by decide +kernel
theorem dX10_keep_5 : decode cX10_keep 5 = .ok (.iconst 2, 1) := by decide +kernel
theorem dX10_keep_6 : decode cX10_keep 6 = .ok (.if_icmp .lt 5, 3) := by decide +kernel
theorem dX10_keep_9 : decode cX10_keep 9 = .ok (.iconst 0, 1) := by decide +kernel
theorem dX10_keep_10 : decode cX10_keep 10 = .ok (.ireturn, 1) := by decide +kernel
theorem dX10_keep_11 : decode cX10_keep 11 = .ok (.iload_n 2, 1) := by decide +kernel
theorem dX10_keep_12 : decode cX10_keep 12 = .ok (.ifCond .ne 25, 3) := by decide +kernel
theorem dX10_keep_15 : decode cX10_keep 15 = .ok (.aload_n 0, 1) := by decide +kernel
theorem dX10_keep_16 : decode cX10_keep 16 = .ok (.getfield 50, 3) := by decide +kernel
theorem dX10_keep_19 : decode cX10_keep 19 = .ok (.iload_n 1, 1) := by decide +kernel
theorem dX10_keep_20 : decode cX10_keep 20 = .ok (.aaload, 1) := by decide +kernel
theorem dX10_keep_21 : decode cX10_keep 21 = .ok (.aload_n 0, 1) := by decide +kernel
theorem dX10_keep_22 : decode cX10_keep 22 = .ok (.getfield 42, 3) := by decide +kernel
theorem dX10_keep_25 : decode cX10_keep 25 = .ok (.invokevirtual 323, 3) := by decide +kernel
theorem dX10_keep_28 : decode cX10_keep 28 = .ok (.aload_n 0, 1) := by decide +kernel
theorem dX10_keep_29 : decode cX10_keep 29 = .ok (.getfield 53, 3) := by decide +kernel
theorem dX10_keep_32 : decode cX10_keep 32 = .ok (.iload_n 1, 1) := by decide +kernel
theorem dX10_keep_33 : decode cX10_keep 33 = .ok (.iconst 1, 1) := by decide +kernel
theorem dX10_keep_34 : decode cX10_keep 34 = .ok (.bastore, 1) := by decide +kernel
theorem dX10_keep_35 : decode cX10_keep 35 = .ok (.iconst 1, 1) := by decide +kernel
theorem dX10_keep_36 : decode cX10_keep 36 = .ok (.ireturn, 1) := by decide +kernel
theorem dX10_keep_37 : decode cX10_keep 37 = .ok (.aload_n 0, 1) := by decide +kernel
theorem dX10_keep_38 : decode cX10_keep 38 = .ok (.getfield 53, 3) := by decide +kernel
theorem dX10_keep_41 : decode cX10_keep 41 = .ok (.iload_n 1, 1) := by decide +kernel
theorem dX10_keep_42 : decode cX10_keep 42 = .ok (.baload, 1) := by decide +kernel
theorem dX10_keep_43 : decode cX10_keep 43 = .ok (.ifCond .ne 5, 3) := by decide +kernel
theorem dX10_keep_46 : decode cX10_keep 46 = .ok (.iconst 0, 1) := by decide +kernel
theorem dX10_keep_47 : decode cX10_keep 47 = .ok (.ireturn, 1) := by decide +kernel
theorem dX10_keep_48 : decode cX10_keep 48 = .ok (.aload_n 0, 1) := by decide +kernel
theorem dX10_keep_49 : decode cX10_keep 49 = .ok (.getfield 42, 3) := by decide +kernel
theorem dX10_keep_52 : decode cX10_keep 52 = .ok (.aload_n 0, 1) := by decide +kernel
theorem dX10_keep_53 : decode cX10_keep 53 = .ok (.getfield 50, 3) := by decide +kernel
theorem dX10_keep_56 : decode cX10_keep 56 = .ok (.iload_n 1, 1) := by decide +kernel
theorem dX10_keep_57 : decode cX10_keep 57 = .ok (.aaload, 1) := by decide +kernel
theorem dX10_keep_58 : decode cX10_keep 58 = .ok (.invokevirtual 323, 3) := by decide +kernel
theorem dX10_keep_61 : decode cX10_keep 61 = .ok (.aload_n 0, 1) := by decide +kernel
theorem dX10_keep_62 : decode cX10_keep 62 = .ok (.iconst 0, 1) := by decide +kernel
theorem dX10_keep_63 : decode cX10_keep 63 = .ok (.putfield 99, 3) := by decide +kernel
theorem dX10_keep_66 : decode cX10_keep 66 = .ok (.iconst 1, 1) := by decide +kernel
theorem dX10_keep_67 : decode cX10_keep 67 = .ok (.ireturn, 1) := by decide +kernel
theorem dX10_count_0 : decode cX10_count 0 = .ok (.iload_n 1, 1) := by decide +kernel
theorem dX10_count_1 : decode cX10_count 1 = .ok (.tableswitch 194 0 14 #[75, 83, 91, 99, 107, 115, 123, 131, 139, 144, 149, 154, 164, 174, 184], 75) := by decide +kernel
theorem dX10_count_76 : decode cX10_count 76 = .ok (.aload_n 0, 1) := by decide +kernel
theorem dX10_count_77 : decode cX10_count 77 = .ok (.getfield 16, 3) := by decide +kernel
theorem dX10_count_80 : decode cX10_count 80 = .ok (.getfield 105, 3) := by decide +kernel
theorem dX10_count_83 : decode cX10_count 83 = .ok (.ireturn, 1) := by decide +kernel
theorem dX10_count_84 : decode cX10_count 84 = .ok (.aload_n 0, 1) := by decide +kernel
theorem dX10_count_85 : decode cX10_count 85 = .ok (.getfield 16, 3) := by decide +kernel
theorem dX10_count_88 : decode cX10_count 88 = .ok (.getfield 398, 3) := by decide +kernel
theorem dX10_count_91 : decode cX10_count 91 = .ok (.ireturn, 1) := by decide +kernel
theorem dX10_count_92 : decode cX10_count 92 = .ok (.aload_n 0, 1) := by decide +kernel
theorem dX10_count_93 : decode cX10_count 93 = .ok (.getfield 16, 3) := by decide +kernel
theorem dX10_count_96 : decode cX10_count 96 = .ok (.getfield 222, 3) := by decide +kernel
theorem dX10_count_99 : decode cX10_count 99 = .ok (.ireturn, 1) := by decide +kernel
theorem dX10_count_100 : decode cX10_count 100 = .ok (.aload_n 0, 1) := by decide +kernel
theorem dX10_count_101 : decode cX10_count 101 = .ok (.getfield 16, 3) := by decide +kernel
theorem dX10_count_104 : decode cX10_count 104 = .ok (.getfield 129, 3) := by decide +kernel
theorem dX10_count_107 : decode cX10_count 107 = .ok (.ireturn, 1) := by decide +kernel
theorem dX10_count_108 : decode cX10_count 108 = .ok (.aload_n 0, 1) := by decide +kernel
theorem dX10_count_109 : decode cX10_count 109 = .ok (.getfield 16, 3) := by decide +kernel
theorem dX10_count_112 : decode cX10_count 112 = .ok (.getfield 225, 3) := by decide +kernel
theorem dX10_count_115 : decode cX10_count 115 = .ok (.ireturn, 1) := by decide +kernel
theorem dX10_count_116 : decode cX10_count 116 = .ok (.aload_n 0, 1) := by decide +kernel
theorem dX10_count_117 : decode cX10_count 117 = .ok (.getfield 16, 3) := by decide +kernel
theorem dX10_count_120 : decode cX10_count 120 = .ok (.getfield 102, 3) := by decide +kernel
theorem dX10_count_123 : decode cX10_count 123 = .ok (.ireturn, 1) := by decide +kernel
theorem dX10_count_124 : decode cX10_count 124 = .ok (.aload_n 0, 1) := by decide +kernel
theorem dX10_count_125 : decode cX10_count 125 = .ok (.getfield 42, 3) := by decide +kernel
theorem dX10_count_128 : decode cX10_count 128 = .ok (.getfield 166, 3) := by decide +kernel
theorem dX10_count_131 : decode cX10_count 131 = .ok (.ireturn, 1) := by decide +kernel
theorem dX10_count_132 : decode cX10_count 132 = .ok (.aload_n 0, 1) := by decide +kernel
theorem dX10_count_133 : decode cX10_count 133 = .ok (.getfield 42, 3) := by decide +kernel
theorem dX10_count_136 : decode cX10_count 136 = .ok (.getfield 382, 3) := by decide +kernel
theorem dX10_count_139 : decode cX10_count 139 = .ok (.ireturn, 1) := by decide +kernel
theorem dX10_count_140 : decode cX10_count 140 = .ok (.aload_n 0, 1) := by decide +kernel
theorem dX10_count_141 : decode cX10_count 141 = .ok (.getfield 99, 3) := by decide +kernel
theorem dX10_count_144 : decode cX10_count 144 = .ok (.ireturn, 1) := by decide +kernel
theorem dX10_count_145 : decode cX10_count 145 = .ok (.aload_n 0, 1) := by decide +kernel
theorem dX10_count_146 : decode cX10_count 146 = .ok (.getfield 61, 3) := by decide +kernel
theorem dX10_count_149 : decode cX10_count 149 = .ok (.ireturn, 1) := by decide +kernel
theorem dX10_count_150 : decode cX10_count 150 = .ok (.aload_n 0, 1) := by decide +kernel
theorem dX10_count_151 : decode cX10_count 151 = .ok (.getfield 393, 3) := by decide +kernel
theorem dX10_count_154 : decode cX10_count 154 = .ok (.ireturn, 1) := by decide +kernel
theorem dX10_count_155 : decode cX10_count 155 = .ok (.aload_n 0, 1) := by decide +kernel
theorem dX10_count_156 : decode cX10_count 156 = .ok (.getfield 16, 3) := by decide +kernel
theorem dX10_count_159 : decode cX10_count 159 = .ok (.getfield 302, 3) := by decide +kernel
theorem dX10_count_162 : decode cX10_count 162 = .ok (.iconst 0, 1) := by decide +kernel
theorem dX10_count_163 : decode cX10_count 163 = .ok (.iaload, 1) := by decide +kernel
theorem dX10_count_164 : decode cX10_count 164 = .ok (.ireturn, 1) := by decide +kernel
theorem dX10_count_165 : decode cX10_count 165 = .ok (.aload_n 0, 1) := by decide +kernel
theorem dX10_count_166 : decode cX10_count 166 = .ok (.getfield 16, 3) := by decide +kernel
theorem dX10_count_169 : decode cX10_count 169 = .ok (.getfield 302, 3) := by decide +kernel
theorem dX10_count_172 : decode cX10_count 172 = .ok (.iconst 1, 1) := by decide +kernel
theorem dX10_count_173 : decode cX10_count 173 = .ok (.iaload, 1) := by decide +kernel
theorem dX10_count_174 : decode cX10_count 174 = .ok (.ireturn, 1) := by decide +kernel
theorem dX10_count_175 : decode cX10_count 175 = .ok (.aload_n 0, 1) := by decide +kernel
theorem dX10_count_176 : decode cX10_count 176 = .ok (.getfield 16, 3) := by decide +kernel
theorem dX10_count_179 : decode cX10_count 179 = .ok (.getfield 302, 3) := by decide +kernel
theorem dX10_count_182 : decode cX10_count 182 = .ok (.iconst 2, 1) := by decide +kernel
theorem dX10_count_183 : decode cX10_count 183 = .ok (.iaload, 1) := by decide +kernel
theorem dX10_count_184 : decode cX10_count 184 = .ok (.ireturn, 1) := by decide +kernel
theorem dX10_count_185 : decode cX10_count 185 = .ok (.aload_n 0, 1) := by decide +kernel
theorem dX10_count_186 : decode cX10_count 186 = .ok (.getfield 16, 3) := by decide +kernel
theorem dX10_count_189 : decode cX10_count 189 = .ok (.getfield 302, 3) := by decide +kernel
theorem dX10_count_192 : decode cX10_count 192 = .ok (.iconst 3, 1) := by decide +kernel
theorem dX10_count_193 : decode cX10_count 193 = .ok (.iaload, 1) := by decide +kernel
theorem dX10_count_194 : decode cX10_count 194 = .ok (.ireturn, 1) := by decide +kernel
theorem dX10_count_195 : decode cX10_count 195 = .ok (.iconst (-1), 1) := by decide +kernel
theorem dX10_count_196 : decode cX10_count 196 = .ok (.ireturn, 1) := by decide +kernel
theorem dX11_init_0 : decode cX11_init 0 = .ok (.aload_n 0, 1) := by decide +kernel
theorem dX11_init_1 : decode cX11_init 1 = .ok (.invokespecial 1, 3) := by decide +kernel
theorem dX11_init_4 : decode cX11_init 4 = .ok (.aload_n 0, 1) := by decide +kernel
theorem dX11_init_5 : decode cX11_init 5 = .ok (.sipush 600, 3) := by decide +kernel
theorem dX11_init_8 : decode cX11_init 8 = .ok (.newarray .byte, 2) := by decide +kernel
theorem dX11_init_10 : decode cX11_init 10 = .ok (.putfield 7, 3) := by decide +kernel
theorem dX11_init_13 : decode cX11_init 13 = .ok (.aload_n 0, 1) := by decide +kernel
theorem dX11_init_14 : decode cX11_init 14 = .ok (.bipush 12, 2) := by decide +kernel
theorem dX11_init_16 : decode cX11_init 16 = .ok (.newarray .int, 2) := by decide +kernel
theorem dX11_init_18 : decode cX11_init 18 = .ok (.putfield 13, 3) := by decide +kernel
theorem dX11_init_21 : decode cX11_init 21 = .ok (.aload_n 0, 1) := by decide +kernel
theorem dX11_init_22 : decode cX11_init 22 = .ok (.bipush 8, 2) := by decide +kernel
theorem dX11_init_24 : decode cX11_init 24 = .ok (.newarray .int, 2) := by decide +kernel
theorem dX11_init_26 : decode cX11_init 26 = .ok (.putfield 17, 3) := by decide +kernel
theorem dX11_init_29 : decode cX11_init 29 = .ok (.aload_n 0, 1) := by decide +kernel
theorem dX11_init_30 : decode cX11_init 30 = .ok (.iconst 4, 1) := by decide +kernel
theorem dX11_init_31 : decode cX11_init 31 = .ok (.newarray .boolean, 2) := by decide +kernel
theorem dX11_init_33 : decode cX11_init 33 = .ok (.putfield 20, 3) := by decide +kernel
theorem dX11_init_36 : decode cX11_init 36 = .ok (.aload_n 0, 1) := by decide +kernel
theorem dX11_init_37 : decode cX11_init 37 = .ok (.bipush 80, 2) := by decide +kernel
theorem dX11_init_39 : decode cX11_init 39 = .ok (.newarray .long, 2) := by decide +kernel
theorem dX11_init_41 : decode cX11_init 41 = .ok (.putfield 24, 3) := by decide +kernel
theorem dX11_init_44 : decode cX11_init 44 = .ok (.aload_n 0, 1) := by decide +kernel
theorem dX11_init_45 : decode cX11_init 45 = .ok (.bipush 10, 2) := by decide +kernel
theorem dX11_init_47 : decode cX11_init 47 = .ok (.newarray .int, 2) := by decide +kernel
theorem dX11_init_49 : decode cX11_init 49 = .ok (.putfield 28, 3) := by decide +kernel
theorem dX11_init_52 : decode cX11_init 52 = .ok (.aload_n 0, 1) := by decide +kernel
theorem dX11_init_53 : decode cX11_init 53 = .ok (.bipush 10, 2) := by decide +kernel
theorem dX11_init_55 : decode cX11_init 55 = .ok (.newarray .int, 2) := by decide +kernel
theorem dX11_init_57 : decode cX11_init 57 = .ok (.putfield 31, 3) := by decide +kernel
theorem dX11_init_60 : decode cX11_init 60 = .ok (.aload_n 0, 1) := by decide +kernel
theorem dX11_init_61 : decode cX11_init 61 = .ok (.bipush 48, 2) := by decide +kernel
theorem dX11_init_63 : decode cX11_init 63 = .ok (.newarray .int, 2) := by decide +kernel
theorem dX11_init_65 : decode cX11_init 65 = .ok (.putfield 34, 3) := by decide +kernel
theorem dX11_init_68 : decode cX11_init 68 = .ok (.aload_n 0, 1) := by decide +kernel
theorem dX11_init_69 : decode cX11_init 69 = .ok (.bipush 8, 2) := by decide +kernel
theorem dX11_init_71 : decode cX11_init 71 = .ok (.newarray .int, 2) := by decide +kernel
theorem dX11_init_73 : decode cX11_init 73 = .ok (.putfield 37, 3) := by decide +kernel
theorem dX11_init_76 : decode cX11_init 76 = .ok (.aload_n 0, 1) := by decide +kernel
theorem dX11_init_77 : decode cX11_init 77 = .ok (.bipush 10, 2) := by decide +kernel
theorem dX11_init_79 : decode cX11_init 79 = .ok (.newarray .int, 2) := by decide +kernel
theorem dX11_init_81 : decode cX11_init 81 = .ok (.putfield 40, 3) := by decide +kernel
theorem dX11_init_84 : decode cX11_init 84 = .ok (.aload_n 0, 1) := by decide +kernel
theorem dX11_init_85 : decode cX11_init 85 = .ok (.bipush 10, 2) := by decide +kernel
theorem dX11_init_87 : decode cX11_init 87 = .ok (.newarray .boolean, 2) := by decide +kernel
theorem dX11_init_89 : decode cX11_init 89 = .ok (.putfield 43, 3) := by decide +kernel
theorem dX11_init_92 : decode cX11_init 92 = .ok (.aload_n 0, 1) := by decide +kernel
theorem dX11_init_93 : decode cX11_init 93 = .ok (.bipush 10, 2) := by decide +kernel
theorem dX11_init_95 : decode cX11_init 95 = .ok (.newarray .boolean, 2) := by decide +kernel
theorem dX11_init_97 : decode cX11_init 97 = .ok (.putfield 46, 3) := by decide +kernel
theorem dX11_init_100 : decode cX11_init 100 = .ok (.aload_n 0, 1) := by decide +kernel
theorem dX11_init_101 : decode cX11_init 101 = .ok (.bipush 10, 2) := by decide +kernel
theorem dX11_init_103 : decode cX11_init 103 = .ok (.newarray .int, 2) := by decide +kernel
theorem dX11_init_105 : decode cX11_init 105 = .ok (.putfield 49, 3) := by decide +kernel
theorem dX11_init_108 : decode cX11_init 108 = .ok (.aload_n 0, 1) := by decide +kernel
theorem dX11_init_109 : decode cX11_init 109 = .ok (.bipush 30, 2) := by decide +kernel
theorem dX11_init_111 : decode cX11_init 111 = .ok (.newarray .int, 2) := by decide +kernel
theorem dX11_init_113 : decode cX11_init 113 = .ok (.putfield 52, 3) := by decide +kernel
theorem dX11_init_116 : decode cX11_init 116 = .ok (.aload_n 0, 1) := by decide +kernel
theorem dX11_init_117 : decode cX11_init 117 = .ok (.bipush 30, 2) := by decide +kernel
theorem dX11_init_119 : decode cX11_init 119 = .ok (.newarray .int, 2) := by decide +kernel
theorem dX11_init_121 : decode cX11_init 121 = .ok (.putfield 55, 3) := by decide +kernel
theorem dX11_init_124 : decode cX11_init 124 = .ok (.aload_n 0, 1) := by decide +kernel
theorem dX11_init_125 : decode cX11_init 125 = .ok (.bipush 6, 2) := by decide +kernel
theorem dX11_init_127 : decode cX11_init 127 = .ok (.newarray .int, 2) := by decide +kernel
theorem dX11_init_129 : decode cX11_init 129 = .ok (.putfield 58, 3) := by decide +kernel
theorem dX11_init_132 : decode cX11_init 132 = .ok (.aload_n 0, 1) := by decide +kernel
theorem dX11_init_133 : decode cX11_init 133 = .ok (.bipush 6, 2) := by decide +kernel
theorem dX11_init_135 : decode cX11_init 135 = .ok (.newarray .int, 2) := by decide +kernel
theorem dX11_init_137 : decode cX11_init 137 = .ok (.putfield 61, 3) := by decide +kernel
theorem dX11_init_140 : decode cX11_init 140 = .ok (.aload_n 0, 1) := by decide +kernel
theorem dX11_init_141 : decode cX11_init 141 = .ok (.bipush 42, 2) := by decide +kernel
theorem dX11_init_143 : decode cX11_init 143 = .ok (.newarray .int, 2) := by decide +kernel
theorem dX11_init_145 : decode cX11_init 145 = .ok (.putfield 64, 3) := by decide +kernel
theorem dX11_init_148 : decode cX11_init 148 = .ok (.aload_n 0, 1) := by decide +kernel
theorem dX11_init_149 : decode cX11_init 149 = .ok (.bipush 16, 2) := by decide +kernel
theorem dX11_init_151 : decode cX11_init 151 = .ok (.newarray .int, 2) := by decide +kernel
theorem dX11_init_153 : decode cX11_init 153 = .ok (.putfield 67, 3) := by decide +kernel
theorem dX11_init_156 : decode cX11_init 156 = .ok (.aload_n 0, 1) := by decide +kernel
theorem dX11_init_157 : decode cX11_init 157 = .ok (.bipush 16, 2) := by decide +kernel
theorem dX11_init_159 : decode cX11_init 159 = .ok (.newarray .int, 2) := by decide +kernel
theorem dX11_init_161 : decode cX11_init 161 = .ok (.putfield 70, 3) := by decide +kernel
theorem dX11_init_164 : decode cX11_init 164 = .ok (.aload_n 0, 1) := by decide +kernel
theorem dX11_init_165 : decode cX11_init 165 = .ok (.bipush 16, 2) := by decide +kernel
theorem dX11_init_167 : decode cX11_init 167 = .ok (.newarray .int, 2) := by decide +kernel
theorem dX11_init_169 : decode cX11_init 169 = .ok (.putfield 73, 3) := by decide +kernel
theorem dX11_init_172 : decode cX11_init 172 = .ok (.aload_n 0, 1) := by decide +kernel
theorem dX11_init_173 : decode cX11_init 173 = .ok (.bipush 16, 2) := by decide +kernel
theorem dX11_init_175 : decode cX11_init 175 = .ok (.newarray .int, 2) := by decide +kernel
theorem dX11_init_177 : decode cX11_init 177 = .ok (.putfield 76, 3) := by decide +kernel
theorem dX11_init_180 : decode cX11_init 180 = .ok (.aload_n 0, 1) := by decide +kernel
theorem dX11_init_181 : decode cX11_init 181 = .ok (.bipush 16, 2) := by decide +kernel
theorem dX11_init_183 : decode cX11_init 183 = .ok (.newarray .int, 2) := by decide +kernel
theorem dX11_init_185 : decode cX11_init 185 = .ok (.putfield 79, 3) := by decide +kernel
theorem dX11_init_188 : decode cX11_init 188 = .ok (.aload_n 0, 1) := by decide +kernel
theorem dX11_init_189 : decode cX11_init 189 = .ok (.bipush 16, 2) := by decide +kernel
theorem dX11_init_191 : decode cX11_init 191 = .ok (.newarray .int, 2) := by decide +kernel
theorem dX11_init_193 : decode cX11_init 193 = .ok (.putfield 82, 3) := by decide +kernel
theorem dX11_init_196 : decode cX11_init 196 = .ok (.aload_n 0, 1) := by decide +kernel
theorem dX11_init_197 : decode cX11_init 197 = .ok (.sipush 160, 3) := by decide +kernel
theorem dX11_init_200 : decode cX11_init 200 = .ok (.newarray .int, 2) := by decide +kernel
theorem dX11_init_202 : decode cX11_init 202 = .ok (.putfield 85, 3) := by decide +kernel
theorem dX11_init_205 : decode cX11_init 205 = .ok (.aload_n 0, 1) := by decide +kernel
theorem dX11_init_206 : decode cX11_init 206 = .ok (.sipush 160, 3) := by decide +kernel
theorem dX11_init_209 : decode cX11_init 209 = .ok (.newarray .int, 2) := by decide +kernel
theorem dX11_init_211 : decode cX11_init 211 = .ok (.putfield 88, 3) := by decide +kernel
theorem dX11_init_214 : decode cX11_init 214 = .ok (.aload_n 0, 1) := by decide +kernel
theorem dX11_init_215 : decode cX11_init 215 = .ok (.sipush 160, 3) := by decide +kernel
theorem dX11_init_218 : decode cX11_init 218 = .ok (.newarray .int, 2) := by decide +kernel
theorem dX11_init_220 : decode cX11_init 220 = .ok (.putfield 91, 3) := by decide +kernel
theorem dX11_init_223 : decode cX11_init 223 = .ok (.aload_n 0, 1) := by decide +kernel
theorem dX11_init_224 : decode cX11_init 224 = .ok (.sipush 160, 3) := by decide +kernel
theorem dX11_init_227 : decode cX11_init 227 = .ok (.newarray .int, 2) := by decide +kernel
theorem dX11_init_229 : decode cX11_init 229 = .ok (.putfield 94, 3) := by decide +kernel
theorem dX11_init_232 : decode cX11_init 232 = .ok (.aload_n 0, 1) := by decide +kernel
theorem dX11_init_233 : decode cX11_init 233 = .ok (.bipush 114, 2) := by decide +kernel
theorem dX11_init_235 : decode cX11_init 235 = .ok (.newarray .int, 2) := by decide +kernel
theorem dX11_init_237 : decode cX11_init 237 = .ok (.putfield 97, 3) := by decide +kernel
theorem dX11_init_240 : decode cX11_init 240 = .ok (.aload_n 0, 1) := by decide +kernel
theorem dX11_init_241 : decode cX11_init 241 = .ok (.sipush 1368, 3) := by decide +kernel
theorem dX11_init_244 : decode cX11_init 244 = .ok (.newarray .int, 2) := by decide +kernel
theorem dX11_init_246 : decode cX11_init 246 = .ok (.putfield 100, 3) := by decide +kernel
theorem dX11_init_249 : decode cX11_init 249 = .ok (.aload_n 0, 1) := by decide +kernel
theorem dX11_init_250 : decode cX11_init 250 = .ok (.sipush 228, 3) := by decide +kernel
theorem dX11_init_253 : decode cX11_init 253 = .ok (.newarray .int, 2) := by decide +kernel
theorem dX11_init_255 : decode cX11_init 255 = .ok (.putfield 103, 3) := by decide +kernel
theorem dX11_init_258 : decode cX11_init 258 = .ok (.aload_n 0, 1) := by decide +kernel
theorem dX11_init_259 : decode cX11_init 259 = .ok (.iconst 2, 1) := by decide +kernel
theorem dX11_init_260 : decode cX11_init 260 = .ok (.newarray .boolean, 2) := by decide +kernel
theorem dX11_init_262 : decode cX11_init 262 = .ok (.putfield 106, 3) := by decide +kernel
theorem dX11_init_265 : decode cX11_init 265 = .ok (.aload_n 0, 1) := by decide +kernel
theorem dX11_init_266 : decode cX11_init 266 = .ok (.bipush 100, 2) := by decide +kernel
theorem dX11_init_268 : decode cX11_init 268 = .ok (.newarray .int, 2) := by decide +kernel
theorem dX11_init_270 : decode cX11_init 270 = .ok (.putfield 109, 3) := by decide +kernel
theorem dX11_init_273 : decode cX11_init 273 = .ok (.aload_n 0, 1) := by decide +kernel
theorem dX11_init_274 : decode cX11_init 274 = .ok (.bipush 16, 2) := by decide +kernel
theorem dX11_init_276 : decode cX11_init 276 = .ok (.newarray .int, 2) := by decide +kernel
theorem dX11_init_278 : decode cX11_init 278 = .ok (.putfield 112, 3) := by decide +kernel
theorem dX11_init_281 : decode cX11_init 281 = .ok (.aload_n 0, 1) := by decide +kernel
theorem dX11_init_282 : decode cX11_init 282 = .ok (.iconst 0, 1) := by decide +kernel
theorem dX11_init_283 : decode cX11_init 283 = .ok (.invokevirtual 115, 3) := by decide +kernel
theorem dX11_init_286 : decode cX11_init 286 = .ok (.return_, 1) := by decide +kernel
theorem dX11_thrown_0 : decode cX11_thrown 0 = .ok (.aload_n 0, 1) := by decide +kernel
theorem dX11_thrown_1 : decode cX11_thrown 1 = .ok (.getfield 119, 3) := by decide +kernel
theorem dX11_thrown_4 : decode cX11_thrown 4 = .ok (.ireturn, 1) := by decide +kernel
theorem dX11_within_0 : decode cX11_within 0 = .ok (.lload_n 0, 1) := by decide +kernel
theorem dX11_within_1 : decode cX11_within 1 = .ok (.lload_n 2, 1) := by decide +kernel
theorem dX11_within_2 : decode cX11_within 2 = .ok (.lcmp, 1) := by decide +kernel
theorem dX11_within_3 : decode cX11_within 3 = .ok (.ifCond .lt 14, 3) := by decide +kernel
theorem dX11_within_6 : decode cX11_within 6 = .ok (.lload_n 0, 1) := by decide +kernel
theorem dX11_within_7 : decode cX11_within 7 = .ok (.lload 4, 2) := by decide +kernel
theorem dX11_within_9 : decode cX11_within 9 = .ok (.lcmp, 1) := by decide +kernel
theorem dX11_within_10 : decode cX11_within 10 = .ok (.ifCond .gt 7, 3) := by decide +kernel
theorem dX11_within_13 : decode cX11_within 13 = .ok (.iconst 1, 1) := by decide +kernel
theorem dX11_within_14 : decode cX11_within 14 = .ok (.goto 4, 3) := by decide +kernel
theorem dX11_within_17 : decode cX11_within 17 = .ok (.iconst 0, 1) := by decide +kernel
theorem dX11_within_18 : decode cX11_within 18 = .ok (.ireturn, 1) := by decide +kernel
theorem dX11_has_0 : decode cX11_has 0 = .ok (.iload_n 0, 1) := by decide +kernel
theorem dX11_has_1 : decode cX11_has 1 = .ok (.iload_n 1, 1) := by decide +kernel
theorem dX11_has_2 : decode cX11_has 2 = .ok (.ishr, 1) := by decide +kernel
theorem dX11_has_3 : decode cX11_has 3 = .ok (.iconst 1, 1) := by decide +kernel
theorem dX11_has_4 : decode cX11_has 4 = .ok (.iand, 1) := by decide +kernel
theorem dX11_has_5 : decode cX11_has 5 = .ok (.iconst 1, 1) := by decide +kernel
theorem dX11_has_6 : decode cX11_has 6 = .ok (.if_icmp .ne 7, 3) := by decide +kernel
theorem dX11_has_9 : decode cX11_has 9 = .ok (.iconst 1, 1) := by decide +kernel
theorem dX11_has_10 : decode cX11_has 10 = .ok (.goto 4, 3) := by decide +kernel
theorem dX11_has_13 : decode cX11_has 13 = .ok (.iconst 0, 1) := by decide +kernel
theorem dX11_has_14 : decode cX11_has 14 = .ok (.ireturn, 1) := by decide +kernel
theorem dX11_bits_0 : decode cX11_bits 0 = .ok (.iconst 0, 1) := by decide +kernel
theorem dX11_bits_1 : decode cX11_bits 1 = .ok (.istore_n 1, 1) := by decide +kernel
theorem dX11_bits_2 : decode cX11_bits 2 = .ok (.iload_n 0, 1) := by decide +kernel
theorem dX11_bits_3 : decode cX11_bits 3 = .ok (.istore_n 2, 1) := by decide +kernel
theorem dX11_bits_4 : decode cX11_bits 4 = .ok (.iload_n 2, 1) := by decide +kernel
theorem dX11_bits_5 : decode cX11_bits 5 = .ok (.ifCond .eq 15, 3) := by decide +kernel
theorem dX11_bits_8 : decode cX11_bits 8 = .ok (.iinc 1 1, 3) := by decide +kernel
theorem dX11_bits_11 : decode cX11_bits 11 = .ok (.iload_n 2, 1) := by decide +kernel
theorem dX11_bits_12 : decode cX11_bits 12 = .ok (.iload_n 2, 1) := by decide +kernel
theorem dX11_bits_13 : decode cX11_bits 13 = .ok (.iconst 1, 1) := by decide +kernel
theorem dX11_bits_14 : decode cX11_bits 14 = .ok (.isub, 1) := by decide +kernel
theorem dX11_bits_15 : decode cX11_bits 15 = .ok (.iand, 1) := by decide +kernel
theorem dX11_bits_16 : decode cX11_bits 16 = .ok (.istore_n 2, 1) := by decide +kernel
theorem dX11_bits_17 : decode cX11_bits 17 = .ok (.goto (-13), 3) := by decide +kernel
theorem dX11_bits_20 : decode cX11_bits 20 = .ok (.iload_n 1, 1) := by decide +kernel
theorem dX11_bits_21 : decode cX11_bits 21 = .ok (.ireturn, 1) := by decide +kernel
theorem dX11_puts_0 : decode cX11_puts 0 = .ok (.bipush 24, 2) := by decide +kernel
theorem dX11_puts_2 : decode cX11_puts 2 = .ok (.istore_n 2, 1) := by decide +kernel
theorem dX11_puts_3 : decode cX11_puts 3 = .ok (.iload_n 2, 1) := by decide +kernel
theorem dX11_puts_4 : decode cX11_puts 4 = .ok (.ifCond .lt 32, 3) := by decide +kernel
theorem dX11_puts_7 : decode cX11_puts 7 = .ok (.aload_n 0, 1) := by decide +kernel
theorem dX11_puts_8 : decode cX11_puts 8 = .ok (.getfield 7, 3) := by decide +kernel
theorem dX11_puts_11 : decode cX11_puts 11 = .ok (.aload_n 0, 1) := by decide +kernel
theorem dX11_puts_12 : decode cX11_puts 12 = .ok (.getfield 123, 3) := by decide +kernel
theorem dX11_puts_15 : decode cX11_puts 15 = .ok (.iload_n 1, 1) := by decide +kernel
theorem dX11_puts_16 : decode cX11_puts 16 = .ok (.iload_n 2, 1) := by decide +kernel
theorem dX11_puts_17 : decode cX11_puts 17 = .ok (.ishr, 1) := by decide +kernel
theorem dX11_puts_18 : decode cX11_puts 18 = .ok (.i2b, 1) := by decide +kernel
theorem dX11_puts_19 : decode cX11_puts 19 = .ok (.bastore, 1) := by decide +kernel
theorem dX11_puts_20 : decode cX11_puts 20 = .ok (.aload_n 0, 1) := by decide +kernel
theorem dX11_puts_21 : decode cX11_puts 21 = .ok (.dup, 1) := by decide +kernel
theorem dX11_puts_22 : decode cX11_puts 22 = .ok (.getfield 123, 3) := by decide +kernel
theorem dX11_puts_25 : decode cX11_puts 25 = .ok (.iconst 1, 1) := by decide +kernel
theorem dX11_puts_26 : decode cX11_puts 26 = .ok (.iadd, 1) := by decide +kernel
theorem dX11_puts_27 : decode cX11_puts 27 = .ok (.putfield 123, 3) := by decide +kernel
theorem dX11_puts_30 : decode cX11_puts 30 = .ok (.iinc 2 (-8), 3) := by decide +kernel
theorem dX11_puts_33 : decode cX11_puts 33 = .ok (.goto (-30), 3) := by decide +kernel
theorem dX11_puts_36 : decode cX11_puts 36 = .ok (.return_, 1) := by decide +kernel
theorem dX11_feed_0 : decode cX11_feed 0 = .ok (.aload_n 0, 1) := by decide +kernel
theorem dX11_feed_1 : decode cX11_feed 1 = .ok (.iconst 0, 1) := by decide +kernel
theorem dX11_feed_2 : decode cX11_feed 2 = .ok (.putfield 119, 3) := by decide +kernel
theorem dX11_feed_5 : decode cX11_feed 5 = .ok (.aload_n 0, 1) := by decide +kernel
theorem dX11_feed_6 : decode cX11_feed 6 = .ok (.getfield 123, 3) := by decide +kernel
theorem dX11_feed_9 : decode cX11_feed 9 = .ok (.bipush 20, 2) := by decide +kernel
theorem dX11_feed_11 : decode cX11_feed 11 = .ok (.iadd, 1) := by decide +kernel
theorem dX11_feed_12 : decode cX11_feed 12 = .ok (.sipush 600, 3) := by decide +kernel
theorem dX11_feed_15 : decode cX11_feed 15 = .ok (.if_icmp .le 5, 3) := by decide +kernel
theorem dX11_feed_18 : decode cX11_feed 18 = .ok (.iconst (-1), 1) := by decide +kernel
theorem dX11_feed_19 : decode cX11_feed 19 = .ok (.ireturn, 1) := by decide +kernel
theorem dX11_feed_20 : decode cX11_feed 20 = .ok (.aload_n 0, 1) := by decide +kernel
theorem dX11_feed_21 : decode cX11_feed 21 = .ok (.iload_n 1, 1) := by decide +kernel
theorem dX11_feed_22 : decode cX11_feed 22 = .ok (.invokevirtual 126, 3) := by decide +kernel
theorem dX11_feed_25 : decode cX11_feed 25 = .ok (.aload_n 0, 1) := by decide +kernel
theorem dX11_feed_26 : decode cX11_feed 26 = .ok (.iload_n 2, 1) := by decide +kernel
theorem dX11_feed_27 : decode cX11_feed 27 = .ok (.invokevirtual 126, 3) := by decide +kernel
theorem dX11_feed_30 : decode cX11_feed 30 = .ok (.aload_n 0, 1) := by decide +kernel
theorem dX11_feed_31 : decode cX11_feed 31 = .ok (.iload_n 3, 1) := by decide +kernel
theorem dX11_feed_32 : decode cX11_feed 32 = .ok (.invokevirtual 126, 3) := by decide +kernel
theorem dX11_feed_35 : decode cX11_feed 35 = .ok (.aload_n 0, 1) := by decide +kernel
theorem dX11_feed_36 : decode cX11_feed 36 = .ok (.iload 4, 2) := by decide +kernel
theorem dX11_feed_38 : decode cX11_feed 38 = .ok (.invokevirtual 126, 3) := by decide +kernel
theorem dX11_feed_41 : decode cX11_feed 41 = .ok (.aload_n 0, 1) := by decide +kernel
theorem dX11_feed_42 : decode cX11_feed 42 = .ok (.iload 5, 2) := by decide +kernel
theorem dX11_feed_44 : decode cX11_feed 44 = .ok (.invokevirtual 126, 3) := by decide +kernel
theorem dX11_feed_47 : decode cX11_feed 47 = .ok (.aload_n 0, 1) := by decide +kernel
theorem dX11_feed_48 : decode cX11_feed 48 = .ok (.getfield 123, 3) := by decide +kernel
theorem dX11_feed_51 : decode cX11_feed 51 = .ok (.ireturn, 1) := by decide +kernel
theorem dX11_see_0 : decode cX11_see 0 = .ok (.iload_n 1, 1) := by decide +kernel
theorem dX11_see_1 : decode cX11_see 1 = .ok (.aload_n 0, 1) := by decide +kernel
theorem dX11_see_2 : decode cX11_see 2 = .ok (.getfield 129, 3) := by decide +kernel
theorem dX11_see_5 : decode cX11_see 5 = .ok (.if_icmp .ge 16, 3) := by decide +kernel
theorem dX11_see_8 : decode cX11_see 8 = .ok (.aload_n 0, 1) := by decide +kernel
theorem dX11_see_9 : decode cX11_see 9 = .ok (.getfield 7, 3) := by decide +kernel
theorem dX11_see_12 : decode cX11_see 12 = .ok (.iload_n 1, 1) := by decide +kernel
theorem dX11_see_13 : decode cX11_see 13 = .ok (.baload, 1) := by decide +kernel
theorem dX11_see_14 : decode cX11_see 14 = .ok (.sipush 255, 3) := by decide +kernel
theorem dX11_see_17 : decode cX11_see 17 = .ok (.iand, 1) := by decide +kernel
theorem dX11_see_18 : decode cX11_see 18 = .ok (.goto 4, 3) := by decide +kernel
theorem dX11_see_21 : decode cX11_see 21 = .ok (.iconst (-1), 1) := by decide +kernel
theorem dX11_see_22 : decode cX11_see 22 = .ok (.ireturn, 1) := by decide +kernel
theorem dX11_steps_0 : decode cX11_steps 0 = .ok (.aload_n 0, 1) := by decide +kernel
theorem dX11_steps_1 : decode cX11_steps 1 = .ok (.aload_n 0, 1) := by decide +kernel
theorem dX11_steps_2 : decode cX11_steps 2 = .ok (.getfield 132, 3) := by decide +kernel
theorem dX11_steps_5 : decode cX11_steps 5 = .ok (.putfield 135, 3) := by decide +kernel
theorem dX11_steps_8 : decode cX11_steps 8 = .ok (.aload_n 0, 1) := by decide +kernel
theorem dX11_steps_9 : decode cX11_steps 9 = .ok (.aload_n 0, 1) := by decide +kernel
theorem dX11_steps_10 : decode cX11_steps 10 = .ok (.getfield 135, 3) := by decide +kernel
theorem dX11_steps_13 : decode cX11_steps 13 = .ok (.invokevirtual 138, 3) := by decide +kernel
theorem dX11_steps_16 : decode cX11_steps 16 = .ok (.bipush 32, 2) := by decide +kernel
theorem dX11_steps_18 : decode cX11_steps 18 = .ok (.if_icmp .eq 16, 3) := by decide +kernel
theorem dX11_steps_21 : decode cX11_steps 21 = .ok (.aload_n 0, 1) := by decide +kernel
theorem dX11_steps_22 : decode cX11_steps 22 = .ok (.aload_n 0, 1) := by decide +kernel
theorem dX11_steps_23 : decode cX11_steps 23 = .ok (.getfield 135, 3) := by decide +kernel
theorem dX11_steps_26 : decode cX11_steps 26 = .ok (.invokevirtual 138, 3) := by decide +kernel
theorem dX11_steps_29 : decode cX11_steps 29 = .ok (.bipush 10, 2) := by decide +kernel
theorem dX11_steps_31 : decode cX11_steps 31 = .ok (.if_icmp .ne 16, 3) := by decide +kernel
theorem dX11_steps_34 : decode cX11_steps 34 = .ok (.aload_n 0, 1) := by decide +kernel
theorem dX11_steps_35 : decode cX11_steps 35 = .ok (.dup, 1) := by decide +kernel
theorem dX11_steps_36 : decode cX11_steps 36 = .ok (.getfield 135, 3) := by decide +kernel
theorem dX11_steps_39 : decode cX11_steps 39 = .ok (.iconst 1, 1) := by decide +kernel
theorem dX11_steps_40 : decode cX11_steps 40 = .ok (.iadd, 1) := by decide +kernel
theorem dX11_steps_41 : decode cX11_steps 41 = .ok (.putfield 135, 3) := by decide +kernel
theorem dX11_steps_44 : decode cX11_steps 44 = .ok (.goto (-36), 3) := by decide +kernel
theorem dX11_steps_47 : decode cX11_steps 47 = .ok (.aload_n 0, 1) := by decide +kernel
theorem dX11_steps_48 : decode cX11_steps 48 = .ok (.aload_n 0, 1) := by decide +kernel
theorem dX11_steps_49 : decode cX11_steps 49 = .ok (.getfield 135, 3) := by decide +kernel
theorem dX11_steps_52 : decode cX11_steps 52 = .ok (.invokevirtual 138, 3) := by decide +kernel
theorem dX11_steps_55 : decode cX11_steps 55 = .ok (.istore_n 1, 1) := by decide +kernel
theorem dX11_steps_56 : decode cX11_steps 56 = .ok (.aload_n 0, 1) := by decide +kernel
theorem dX11_steps_57 : decode cX11_steps 57 = .ok (.aload_n 0, 1) := by decide +kernel
theorem dX11_steps_58 : decode cX11_steps 58 = .ok (.getfield 135, 3) := by decide +kernel
theorem dX11_steps_61 : decode cX11_steps 61 = .ok (.iconst 1, 1) := by decide +kernel
theorem dX11_steps_62 : decode cX11_steps 62 = .ok (.iadd, 1) := by decide +kernel
theorem dX11_steps_63 : decode cX11_steps 63 = .ok (.putfield 132, 3) := by decide +kernel
theorem dX11_steps_66 : decode cX11_steps 66 = .ok (.aload_n 0, 1) := by decide +kernel
theorem dX11_steps_67 : decode cX11_steps 67 = .ok (.iconst 3, 1) := by decide +kernel
theorem dX11_steps_68 : decode cX11_steps 68 = .ok (.putfield 142, 3) := by decide +kernel
theorem dX11_steps_71 : decode cX11_steps 71 = .ok (.aload_n 0, 1) := by decide +kernel
theorem dX11_steps_72 : decode cX11_steps 72 = .ok (.iconst 0, 1) := by decide +kernel
theorem dX11_steps_73 : decode cX11_steps 73 = .ok (.putfield 145, 3) := by decide +kernel
theorem dX11_steps_76 : decode cX11_steps 76 = .ok (.aload_n 0, 1) := by decide +kernel
theorem dX11_steps_77 : decode cX11_steps 77 = .ok (.lconst 0, 1) := by decide +kernel
theorem dX11_steps_78 : decode cX11_steps 78 = .ok (.putfield 148, 3) := by decide +kernel
theorem dX11_steps_81 : decode cX11_steps 81 = .ok (.iload_n 1, 1) := by decide +kernel
theorem dX11_steps_82 : decode cX11_steps 82 = .ok (.iconst (-1), 1) := by decide +kernel
theorem dX11_steps_83 : decode cX11_steps 83 = .ok (.if_icmp .ne 19, 3) := by decide +kernel
theorem dX11_steps_86 : decode cX11_steps 86 = .ok (.aload_n 0, 1) := by decide +kernel
theorem dX11_steps_87 : decode cX11_steps 87 = .ok (.aload_n 0, 1) := by decide +kernel
theorem dX11_steps_88 : decode cX11_steps 88 = .ok (.getfield 135, 3) := by decide +kernel
theorem dX11_steps_91 : decode cX11_steps 91 = .ok (.putfield 132, 3) := by decide +kernel
theorem dX11_steps_94 : decode cX11_steps 94 = .ok (.aload_n 0, 1) := by decide +kernel
theorem dX11_steps_95 : decode cX11_steps 95 = .ok (.iconst 0, 1) := by decide +kernel
theorem dX11_steps_96 : decode cX11_steps 96 = .ok (.putfield 142, 3) := by decide +kernel
theorem dX11_steps_99 : decode cX11_steps 99 = .ok (.goto 289, 3) := by decide +kernel
theorem dX11_steps_102 : decode cX11_steps 102 = .ok (.iload_n 1, 1) := by decide +kernel
theorem dX11_steps_103 : decode cX11_steps 103 = .ok (.bipush 59, 2) := by decide +kernel
theorem dX11_steps_105 : decode cX11_steps 105 = .ok (.if_icmp .eq 27, 3) := by decide +kernel
theorem dX11_steps_108 : decode cX11_steps 108 = .ok (.iload_n 1, 1) := by decide +kernel
theorem dX11_steps_109 : decode cX11_steps 109 = .ok (.bipush 40, 2) := by decide +kernel
theorem dX11_steps_111 : decode cX11_steps 111 = .ok (.if_icmp .eq 21, 3) := by decide +kernel
theorem dX11_steps_114 : decode cX11_steps 114 = .ok (.iload_n 1, 1) := by decide +kernel
theorem dX11_steps_115 : decode cX11_steps 115 = .ok (.bipush 41, 2) := by decide +kernel
theorem dX11_steps_117 : decode cX11_steps 117 = .ok (.if_icmp .eq 15, 3) := by decide +kernel
theorem dX11_steps_120 : decode cX11_steps 120 = .ok (.iload_n 1, 1) := by decide +kernel
theorem dX11_steps_121 : decode cX11_steps 121 = .ok (.bipush 33, 2) := by decide +kernel
theorem dX11_steps_123 : decode cX11_steps 123 = .ok (.if_icmp .eq 9, 3) := by decide +kernel
theorem dX11_steps_126 : decode cX11_steps 126 = .ok (.iload_n 1, 1) := by decide +kernel
theorem dX11_steps_127 : decode cX11_steps 127 = .ok (.bipush 63, 2) := by decide +kernel
theorem dX11_steps_129 : decode cX11_steps 129 = .ok (.if_icmp .ne 11, 3) := by decide +kernel
theorem dX11_steps_132 : decode cX11_steps 132 = .ok (.aload_n 0, 1) := by decide +kernel
theorem dX11_steps_133 : decode cX11_steps 133 = .ok (.iload_n 1, 1) := by decide +kernel
theorem dX11_steps_134 : decode cX11_steps 134 = .ok (.putfield 142, 3) := by decide +kernel
theorem dX11_steps_137 : decode cX11_steps 137 = .ok (.goto 251, 3) := by decide +kernel
theorem dX11_steps_140 : decode cX11_steps 140 = .ok (.iload_n 1, 1) := by decide +kernel
theorem dX11_steps_141 : decode cX11_steps 141 = .ok (.i2l, 1) := by decide +kernel
theorem dX11_steps_142 : decode cX11_steps 142 = .ok (.ldc2_w 152, 3) := by decide +kernel
theorem dX11_steps_145 : decode cX11_steps 145 = .ok (.ldc2_w 154, 3) := by decide +kernel
theorem dX11_steps_148 : decode cX11_steps 148 = .ok (.invokestatic 156, 3) := by decide +kernel
theorem dX11_steps_151 : decode cX11_steps 151 = .ok (.ifCond .eq 116, 3) := by decide +kernel
theorem dX11_steps_154 : decode cX11_steps 154 = .ok (.aload_n 0, 1) := by decide +kernel
theorem dX11_steps_155 : decode cX11_steps 155 = .ok (.aload_n 0, 1) := by decide +kernel
theorem dX11_steps_156 : decode cX11_steps 156 = .ok (.getfield 135, 3) := by decide +kernel
theorem dX11_steps_159 : decode cX11_steps 159 = .ok (.putfield 132, 3) := by decide +kernel
theorem dX11_steps_162 : decode cX11_steps 162 = .ok (.aload_n 0, 1) := by decide +kernel
theorem dX11_steps_163 : decode cX11_steps 163 = .ok (.aload_n 0, 1) := by decide +kernel
theorem dX11_steps_164 : decode cX11_steps 164 = .ok (.getfield 132, 3) := by decide +kernel
theorem dX11_steps_167 : decode cX11_steps 167 = .ok (.invokevirtual 138, 3) := by decide +kernel
theorem dX11_steps_170 : decode cX11_steps 170 = .ok (.i2l, 1) := by decide +kernel
theorem dX11_steps_171 : decode cX11_steps 171 = .ok (.ldc2_w 152, 3) := by decide +kernel
theorem dX11_steps_174 : decode cX11_steps 174 = .ok (.ldc2_w 154, 3) := by decide +kernel
theorem dX11_steps_177 : decode cX11_steps 177 = .ok (.invokestatic 156, 3) := by decide +kernel
theorem dX11_steps_180 : decode cX11_steps 180 = .ok (.ifCond .eq 61, 3) := by decide +kernel
theorem dX11_steps_183 : decode cX11_steps 183 = .ok (.aload_n 0, 1) := by decide +kernel
theorem dX11_steps_184 : decode cX11_steps 184 = .ok (.aload_n 0, 1) := by decide +kernel
theorem dX11_steps_185 : decode cX11_steps 185 = .ok (.getfield 132, 3) := by decide +kernel
theorem dX11_steps_188 : decode cX11_steps 188 = .ok (.aload_n 0, 1) := by decide +kernel
theorem dX11_steps_189 : decode cX11_steps 189 = .ok (.getfield 135, 3) := by decide +kernel
theorem dX11_steps_192 : decode cX11_steps 192 = .ok (.isub, 1) := by decide +kernel
theorem dX11_steps_193 : decode cX11_steps 193 = .ok (.bipush 6, 2) := by decide +kernel
theorem dX11_steps_195 : decode cX11_steps 195 = .ok (.if_icmp .ge 26, 3) := by decide +kernel
theorem dX11_steps_198 : decode cX11_steps 198 = .ok (.aload_n 0, 1) := by decide +kernel
theorem dX11_steps_199 : decode cX11_steps 199 = .ok (.getfield 148, 3) := by decide +kernel
theorem dX11_steps_202 : decode cX11_steps 202 = .ok (.iconst 5, 1) := by decide +kernel
theorem dX11_steps_203 : decode cX11_steps 203 = .ok (.lshl, 1) := by decide +kernel
theorem dX11_steps_204 : decode cX11_steps 204 = .ok (.aload_n 0, 1) := by decide +kernel
theorem dX11_steps_205 : decode cX11_steps 205 = .ok (.aload_n 0, 1) := by decide +kernel
theorem dX11_steps_206 : decode cX11_steps 206 = .ok (.getfield 132, 3) := by decide +kernel
theorem dX11_steps_209 : decode cX11_steps 209 = .ok (.invokevirtual 138, 3) := by decide +kernel
theorem dX11_steps_212 : decode cX11_steps 212 = .ok (.i2l, 1) := by decide +kernel
theorem dX11_steps_213 : decode cX11_steps 213 = .ok (.ldc2_w 160, 3) := by decide +kernel
theorem dX11_steps_216 : decode cX11_steps 216 = .ok (.lsub, 1) := by decide +kernel
theorem dX11_steps_217 : decode cX11_steps 217 = .ok (.lor, 1) := by decide +kernel
theorem dX11_steps_218 : decode cX11_steps 218 = .ok (.goto 7, 3) := by decide +kernel
theorem dX11_steps_221 : decode cX11_steps 221 = .ok (.aload_n 0, 1) := by decide +kernel
theorem dX11_steps_222 : decode cX11_steps 222 = .ok (.getfield 148, 3) := by decide +kernel
theorem dX11_steps_225 : decode cX11_steps 225 = .ok (.putfield 148, 3) := by decide +kernel
theorem dX11_steps_228 : decode cX11_steps 228 = .ok (.aload_n 0, 1) := by decide +kernel
theorem dX11_steps_229 : decode cX11_steps 229 = .ok (.dup, 1) := by decide +kernel
theorem dX11_steps_230 : decode cX11_steps 230 = .ok (.getfield 132, 3) := by decide +kernel
theorem dX11_steps_233 : decode cX11_steps 233 = .ok (.iconst 1, 1) := by decide +kernel
theorem dX11_steps_234 : decode cX11_steps 234 = .ok (.iadd, 1) := by decide +kernel
theorem dX11_steps_235 : decode cX11_steps 235 = .ok (.putfield 132, 3) := by decide +kernel
theorem dX11_steps_238 : decode cX11_steps 238 = .ok (.goto (-76), 3) := by decide +kernel
theorem dX11_steps_241 : decode cX11_steps 241 = .ok (.aload_n 0, 1) := by decide +kernel
theorem dX11_steps_242 : decode cX11_steps 242 = .ok (.aload_n 0, 1) := by decide +kernel
theorem dX11_steps_243 : decode cX11_steps 243 = .ok (.getfield 132, 3) := by decide +kernel
theorem dX11_steps_246 : decode cX11_steps 246 = .ok (.aload_n 0, 1) := by decide +kernel
theorem dX11_steps_247 : decode cX11_steps 247 = .ok (.getfield 135, 3) := by decide +kernel
theorem dX11_steps_250 : decode cX11_steps 250 = .ok (.isub, 1) := by decide +kernel
theorem dX11_steps_251 : decode cX11_steps 251 = .ok (.bipush 7, 2) := by decide +kernel
theorem dX11_steps_253 : decode cX11_steps 253 = .ok (.if_icmp .ge 7, 3) := by decide +kernel
theorem dX11_steps_256 : decode cX11_steps 256 = .ok (.iconst 1, 1) := by decide +kernel
theorem dX11_steps_257 : decode cX11_steps 257 = .ok (.goto 4, 3) := by decide +kernel
theorem dX11_steps_260 : decode cX11_steps 260 = .ok (.iconst 3, 1) := by decide +kernel
theorem dX11_steps_261 : decode cX11_steps 261 = .ok (.putfield 142, 3) := by decide +kernel
theorem dX11_steps_264 : decode cX11_steps 264 = .ok (.goto 124, 3) := by decide +kernel
theorem dX11_steps_267 : decode cX11_steps 267 = .ok (.iload_n 1, 1) := by decide +kernel
theorem dX11_steps_268 : decode cX11_steps 268 = .ok (.i2l, 1) := by decide +kernel
theorem dX11_steps_269 : decode cX11_steps 269 = .ok (.ldc2_w 162, 3) := by decide +kernel
theorem dX11_steps_272 : decode cX11_steps 272 = .ok (.ldc2_w 164, 3) := by decide +kernel
theorem dX11_steps_275 : decode cX11_steps 275 = .ok (.invokestatic 156, 3) := by decide +kernel
theorem dX11_steps_278 : decode cX11_steps 278 = .ok (.ifCond .eq 110, 3) := by decide +kernel
theorem dX11_steps_281 : decode cX11_steps 281 = .ok (.aload_n 0, 1) := by decide +kernel
theorem dX11_steps_282 : decode cX11_steps 282 = .ok (.aload_n 0, 1) := by decide +kernel
theorem dX11_steps_283 : decode cX11_steps 283 = .ok (.getfield 135, 3) := by decide +kernel
theorem dX11_steps_286 : decode cX11_steps 286 = .ok (.putfield 132, 3) := by decide +kernel
theorem dX11_steps_289 : decode cX11_steps 289 = .ok (.aload_n 0, 1) := by decide +kernel
theorem dX11_steps_290 : decode cX11_steps 290 = .ok (.aload_n 0, 1) := by decide +kernel
theorem dX11_steps_291 : decode cX11_steps 291 = .ok (.getfield 132, 3) := by decide +kernel
theorem dX11_steps_294 : decode cX11_steps 294 = .ok (.invokevirtual 138, 3) := by decide +kernel
theorem dX11_steps_297 : decode cX11_steps 297 = .ok (.i2l, 1) := by decide +kernel
theorem dX11_steps_298 : decode cX11_steps 298 = .ok (.ldc2_w 162, 3) := by decide +kernel
theorem dX11_steps_301 : decode cX11_steps 301 = .ok (.ldc2_w 164, 3) := by decide +kernel
theorem dX11_steps_304 : decode cX11_steps 304 = .ok (.invokestatic 156, 3) := by decide +kernel
theorem dX11_steps_307 : decode cX11_steps 307 = .ok (.ifCond .eq 59, 3) := by decide +kernel
theorem dX11_steps_310 : decode cX11_steps 310 = .ok (.aload_n 0, 1) := by decide +kernel
theorem dX11_steps_311 : decode cX11_steps 311 = .ok (.aload_n 0, 1) := by decide +kernel
theorem dX11_steps_312 : decode cX11_steps 312 = .ok (.getfield 132, 3) := by decide +kernel
theorem dX11_steps_315 : decode cX11_steps 315 = .ok (.aload_n 0, 1) := by decide +kernel
theorem dX11_steps_316 : decode cX11_steps 316 = .ok (.getfield 135, 3) := by decide +kernel
theorem dX11_steps_319 : decode cX11_steps 319 = .ok (.isub, 1) := by decide +kernel
theorem dX11_steps_320 : decode cX11_steps 320 = .ok (.iconst 4, 1) := by decide +kernel
theorem dX11_steps_321 : decode cX11_steps 321 = .ok (.if_icmp .ge 25, 3) := by decide +kernel
theorem dX11_steps_324 : decode cX11_steps 324 = .ok (.bipush 10, 2) := by decide +kernel
theorem dX11_steps_326 : decode cX11_steps 326 = .ok (.aload_n 0, 1) := by decide +kernel
theorem dX11_steps_327 : decode cX11_steps 327 = .ok (.getfield 145, 3) := by decide +kernel
theorem dX11_steps_330 : decode cX11_steps 330 = .ok (.imul, 1) := by decide +kernel
theorem dX11_steps_331 : decode cX11_steps 331 = .ok (.aload_n 0, 1) := by decide +kernel
theorem dX11_steps_332 : decode cX11_steps 332 = .ok (.aload_n 0, 1) := by decide +kernel
theorem dX11_steps_333 : decode cX11_steps 333 = .ok (.getfield 132, 3) := by decide +kernel
theorem dX11_steps_336 : decode cX11_steps 336 = .ok (.invokevirtual 138, 3) := by decide +kernel
theorem dX11_steps_339 : decode cX11_steps 339 = .ok (.iadd, 1) := by decide +kernel
theorem dX11_steps_340 : decode cX11_steps 340 = .ok (.bipush 48, 2) := by decide +kernel
theorem dX11_steps_342 : decode cX11_steps 342 = .ok (.isub, 1) := by decide +kernel
theorem dX11_steps_343 : decode cX11_steps 343 = .ok (.goto 7, 3) := by decide +kernel
theorem dX11_steps_346 : decode cX11_steps 346 = .ok (.aload_n 0, 1) := by decide +kernel
theorem dX11_steps_347 : decode cX11_steps 347 = .ok (.getfield 145, 3) := by decide +kernel
theorem dX11_steps_350 : decode cX11_steps 350 = .ok (.putfield 145, 3) := by decide +kernel
theorem dX11_steps_353 : decode cX11_steps 353 = .ok (.aload_n 0, 1) := by decide +kernel
theorem dX11_steps_354 : decode cX11_steps 354 = .ok (.dup, 1) := by decide +kernel
theorem dX11_steps_355 : decode cX11_steps 355 = .ok (.getfield 132, 3) := by decide +kernel
theorem dX11_steps_358 : decode cX11_steps 358 = .ok (.iconst 1, 1) := by decide +kernel
theorem dX11_steps_359 : decode cX11_steps 359 = .ok (.iadd, 1) := by decide +kernel
theorem dX11_steps_360 : decode cX11_steps 360 = .ok (.putfield 132, 3) := by decide +kernel
theorem dX11_steps_363 : decode cX11_steps 363 = .ok (.goto (-74), 3) := by decide +kernel
theorem dX11_steps_366 : decode cX11_steps 366 = .ok (.aload_n 0, 1) := by decide +kernel
theorem dX11_steps_367 : decode cX11_steps 367 = .ok (.aload_n 0, 1) := by decide +kernel
theorem dX11_steps_368 : decode cX11_steps 368 = .ok (.getfield 132, 3) := by decide +kernel
theorem dX11_steps_371 : decode cX11_steps 371 = .ok (.aload_n 0, 1) := by decide +kernel
theorem dX11_steps_372 : decode cX11_steps 372 = .ok (.getfield 135, 3) := by decide +kernel
theorem dX11_steps_375 : decode cX11_steps 375 = .ok (.isub, 1) := by decide +kernel
theorem dX11_steps_376 : decode cX11_steps 376 = .ok (.iconst 5, 1) := by decide +kernel
theorem dX11_steps_377 : decode cX11_steps 377 = .ok (.if_icmp .ge 7, 3) := by decide +kernel
theorem dX11_steps_380 : decode cX11_steps 380 = .ok (.iconst 2, 1) := by decide +kernel
theorem dX11_steps_381 : decode cX11_steps 381 = .ok (.goto 4, 3) := by decide +kernel
theorem dX11_steps_384 : decode cX11_steps 384 = .ok (.iconst 3, 1) := by decide +kernel
theorem dX11_steps_385 : decode cX11_steps 385 = .ok (.putfield 142, 3) := by decide +kernel
theorem dX11_steps_388 : decode cX11_steps 388 = .ok (.return_, 1) := by decide +kernel
theorem dX11_must_0 : decode cX11_must 0 = .ok (.aload_n 0, 1) := by decide +kernel
theorem dX11_must_1 : decode cX11_must 1 = .ok (.getfield 166, 3) := by decide +kernel
theorem dX11_must_4 : decode cX11_must 4 = .ok (.ifCond .ne 20, 3) := by decide +kernel
theorem dX11_must_7 : decode cX11_must 7 = .ok (.iload_n 1, 1) := by decide +kernel
theorem dX11_must_8 : decode cX11_must 8 = .ok (.ifCond .ne 16, 3) := by decide +kernel
theorem dX11_must_11 : decode cX11_must 11 = .ok (.aload_n 0, 1) := by decide +kernel
theorem dX11_must_12 : decode cX11_must 12 = .ok (.iload_n 2, 1) := by decide +kernel
theorem dX11_must_13 : decode cX11_must 13 = .ok (.putfield 166, 3) := by decide +kernel
theorem dX11_must_16 : decode cX11_must 16 = .ok (.aload_n 0, 1) := by decide +kernel
theorem dX11_must_17 : decode cX11_must 17 = .ok (.aload_n 0, 1) := by decide +kernel
theorem dX11_must_18 : decode cX11_must 18 = .ok (.getfield 135, 3) := by decide +kernel
theorem dX11_must_21 : decode cX11_must 21 = .ok (.putfield 169, 3) := by decide +kernel
theorem dX11_must_24 : decode cX11_must 24 = .ok (.aload_n 0, 1) := by decide +kernel
theorem dX11_must_25 : decode cX11_must 25 = .ok (.getfield 166, 3) := by decide +kernel
theorem dX11_must_28 : decode cX11_must 28 = .ok (.ifCond .ne 7, 3) := by decide +kernel
theorem dX11_must_31 : decode cX11_must 31 = .ok (.iconst 1, 1) := by decide +kernel
theorem dX11_must_32 : decode cX11_must 32 = .ok (.goto 4, 3) := by decide +kernel
theorem dX11_must_35 : decode cX11_must 35 = .ok (.iconst 0, 1) := by decide +kernel
theorem dX11_must_36 : decode cX11_must 36 = .ok (.ireturn, 1) := by decide +kernel
theorem dX11_spelled_0 : decode cX11_spelled 0 = .ok (.lconst 0, 1) := by decide +kernel
theorem dX11_spelled_1 : decode cX11_spelled 1 = .ok (.lstore_n 1, 1) := by decide +kernel
theorem dX11_spelled_2 : decode cX11_spelled 2 = .ok (.iconst 0, 1) := by decide +kernel
theorem dX11_spelled_3 : decode cX11_spelled 3 = .ok (.istore_n 3, 1) := by decide +kernel
theorem dX11_spelled_4 : decode cX11_spelled 4 = .ok (.iload_n 3, 1) := by decide +kernel
theorem dX11_spelled_5 : decode cX11_spelled 5 = .ok (.aload_n 0, 1) := by decide +kernel
theorem dX11_spelled_6 : decode cX11_spelled 6 = .ok (.invokevirtual 172, 3) := by decide +kernel
theorem dX11_spelled_9 : decode cX11_spelled 9 = .ok (.if_icmp .ge 24, 3) := by decide +kernel
theorem dX11_spelled_12 : decode cX11_spelled 12 = .ok (.lload_n 1, 1) := by decide +kernel
theorem dX11_spelled_13 : decode cX11_spelled 13 = .ok (.iconst 5, 1) := by decide +kernel
theorem dX11_spelled_14 : decode cX11_spelled 14 = .ok (.lshl, 1) := by decide +kernel
theorem dX11_spelled_15 : decode cX11_spelled 15 = .ok (.aload_n 0, 1) := by decide +kernel
theorem dX11_spelled_16 : decode cX11_spelled 16 = .ok (.iload_n 3, 1) := by decide +kernel
theorem dX11_spelled_17 : decode cX11_spelled 17 = .ok (.invokevirtual 178, 3) := by decide +kernel
theorem dX11_spelled_20 : decode cX11_spelled 20 = .ok (.i2l, 1) := by decide +kernel
theorem dX11_spelled_21 : decode cX11_spelled 21 = .ok (.ldc2_w 160, 3) := by decide +kernel
theorem dX11_spelled_24 : decode cX11_spelled 24 = .ok (.lsub, 1) := by decide +kernel
theorem dX11_spelled_25 : decode cX11_spelled 25 = .ok (.lor, 1) := by decide +kernel
theorem dX11_spelled_26 : decode cX11_spelled 26 = .ok (.lstore_n 1, 1) := by decide +kernel
theorem dX11_spelled_27 : decode cX11_spelled 27 = .ok (.iinc 3 1, 3) := by decide +kernel
theorem dX11_spelled_30 : decode cX11_spelled 30 = .ok (.goto (-26), 3) := by decide +kernel
theorem dX11_spelled_33 : decode cX11_spelled 33 = .ok (.lload_n 1, 1) := by decide +kernel
theorem dX11_spelled_34 : decode cX11_spelled 34 = .ok (.lreturn, 1) := by decide +kernel
theorem dX11_is_0 : decode cX11_is 0 = .ok (.aload_n 0, 1) := by decide +kernel
theorem dX11_is_1 : decode cX11_is 1 = .ok (.getfield 166, 3) := by decide +kernel
theorem dX11_is_4 : decode cX11_is 4 = .ok (.ifCond .ne 27, 3) := by decide +kernel
theorem dX11_is_7 : decode cX11_is 7 = .ok (.aload_n 0, 1) := by decide +kernel
theorem dX11_is_8 : decode cX11_is 8 = .ok (.getfield 142, 3) := by decide +kernel
theorem dX11_is_11 : decode cX11_is 11 = .ok (.iconst 1, 1) := by decide +kernel
theorem dX11_is_12 : decode cX11_is 12 = .ok (.if_icmp .ne 19, 3) := by decide +kernel
theorem dX11_is_15 : decode cX11_is 15 = .ok (.aload_n 0, 1) := by decide +kernel
theorem dX11_is_16 : decode cX11_is 16 = .ok (.getfield 148, 3) := by decide +kernel
theorem dX11_is_19 : decode cX11_is 19 = .ok (.aload_n 1, 1) := by decide +kernel
theorem dX11_is_20 : decode cX11_is 20 = .ok (.invokestatic 182, 3) := by decide +kernel
theorem dX11_is_23 : decode cX11_is 23 = .ok (.lcmp, 1) := by decide +kernel
theorem dX11_is_24 : decode cX11_is 24 = .ok (.ifCond .ne 7, 3) := by decide +kernel
theorem dX11_is_27 : decode cX11_is 27 = .ok (.iconst 1, 1) := by decide +kernel
theorem dX11_is_28 : decode cX11_is 28 = .ok (.goto 4, 3) := by decide +kernel
theorem dX11_is_31 : decode cX11_is 31 = .ok (.iconst 0, 1) := by decide +kernel
theorem dX11_is_32 : decode cX11_is 32 = .ok (.ireturn, 1) := by decide +kernel
theorem dX11_isOwn_0 : decode cX11_isOwn 0 = .ok (.aload_n 0, 1) := by decide +kernel
theorem dX11_isOwn_1 : decode cX11_isOwn 1 = .ok (.ldc 186, 2) := by decide +kernel
theorem dX11_isOwn_3 : decode cX11_isOwn 3 = .ok (.invokevirtual 188, 3) := by decide +kernel
theorem dX11_isOwn_6 : decode cX11_isOwn 6 = .ok (.ifCond .ne 84, 3) := by decide +kernel
theorem dX11_isOwn_9 : decode cX11_isOwn 9 = .ok (.aload_n 0, 1) := by decide +kernel
theorem dX11_isOwn_10 : decode cX11_isOwn 10 = .ok (.ldc 192, 2) := by decide +kernel
theorem dX11_isOwn_12 : decode cX11_isOwn 12 = .ok (.invokevirtual 188, 3) := by decide +kernel
theorem dX11_isOwn_15 : decode cX11_isOwn 15 = .ok (.ifCond .ne 75, 3) := by decide +kernel
theorem dX11_isOwn_18 : decode cX11_isOwn 18 = .ok (.aload_n 0, 1) := by decide +kernel
theorem dX11_isOwn_19 : decode cX11_isOwn 19 = .ok (.ldc 194, 2) := by decide +kernel
theorem dX11_isOwn_21 : decode cX11_isOwn 21 = .ok (.invokevirtual 188, 3) := by decide +kernel
theorem dX11_isOwn_24 : decode cX11_isOwn 24 = .ok (.ifCond .ne 66, 3) := by decide +kernel
theorem dX11_isOwn_27 : decode cX11_isOwn 27 = .ok (.aload_n 0, 1) := by decide +kernel
theorem dX11_isOwn_28 : decode cX11_isOwn 28 = .ok (.ldc 196, 2) := by decide +kernel
theorem dX11_isOwn_30 : decode cX11_isOwn 30 = .ok (.invokevirtual 188, 3) := by decide +kernel
theorem dX11_isOwn_33 : decode cX11_isOwn 33 = .ok (.ifCond .ne 57, 3) := by decide +kernel
theorem dX11_isOwn_36 : decode cX11_isOwn 36 = .ok (.aload_n 0, 1) := by decide +kernel
theorem dX11_isOwn_37 : decode cX11_isOwn 37 = .ok (.ldc 198, 2) := by decide +kernel
theorem dX11_isOwn_39 : decode cX11_isOwn 39 = .ok (.invokevirtual 188, 3) := by decide +kernel
theorem dX11_isOwn_42 : decode cX11_isOwn 42 = .ok (.ifCond .ne 48, 3) := by decide +kernel
theorem dX11_isOwn_45 : decode cX11_isOwn 45 = .ok (.aload_n 0, 1) := by decide +kernel
theorem dX11_isOwn_46 : decode cX11_isOwn 46 = .ok (.ldc 200, 2) := by decide +kernel
theorem dX11_isOwn_48 : decode cX11_isOwn 48 = .ok (.invokevirtual 188, 3) := by decide +kernel
theorem dX11_isOwn_51 : decode cX11_isOwn 51 = .ok (.ifCond .ne 39, 3) := by decide +kernel
theorem dX11_isOwn_54 : decode cX11_isOwn 54 = .ok (.aload_n 0, 1) := by decide +kernel
theorem dX11_isOwn_55 : decode cX11_isOwn 55 = .ok (.ldc 202, 2) := by decide +kernel
theorem dX11_isOwn_57 : decode cX11_isOwn 57 = .ok (.invokevirtual 188, 3) := by decide +kernel
theorem dX11_isOwn_60 : decode cX11_isOwn 60 = .ok (.ifCond .ne 30, 3) := by decide +kernel
theorem dX11_isOwn_63 : decode cX11_isOwn 63 = .ok (.aload_n 0, 1) := by decide +kernel
theorem dX11_isOwn_64 : decode cX11_isOwn 64 = .ok (.ldc 204, 2) := by decide +kernel
theorem dX11_isOwn_66 : decode cX11_isOwn 66 = .ok (.invokevirtual 188, 3) := by decide +kernel
theorem dX11_isOwn_69 : decode cX11_isOwn 69 = .ok (.ifCond .ne 21, 3) := by decide +kernel
theorem dX11_isOwn_72 : decode cX11_isOwn 72 = .ok (.aload_n 0, 1) := by decide +kernel
theorem dX11_isOwn_73 : decode cX11_isOwn 73 = .ok (.ldc 206, 2) := by decide +kernel
theorem dX11_isOwn_75 : decode cX11_isOwn 75 = .ok (.invokevirtual 188, 3) := by decide +kernel
theorem dX11_isOwn_78 : decode cX11_isOwn 78 = .ok (.ifCond .ne 12, 3) := by decide +kernel
theorem dX11_isOwn_81 : decode cX11_isOwn 81 = .ok (.aload_n 0, 1) := by decide +kernel
theorem dX11_isOwn_82 : decode cX11_isOwn 82 = .ok (.ldc 208, 2) := by decide +kernel
theorem dX11_isOwn_84 : decode cX11_isOwn 84 = .ok (.invokevirtual 188, 3) := by decide +kernel
theorem dX11_isOwn_87 : decode cX11_isOwn 87 = .ok (.ifCond .eq 7, 3) := by decide +kernel
theorem dX11_isOwn_90 : decode cX11_isOwn 90 = .ok (.iconst 1, 1) := by decide +kernel
theorem dX11_isOwn_91 : decode cX11_isOwn 91 = .ok (.goto 4, 3) := by decide +kernel
theorem dX11_isOwn_94 : decode cX11_isOwn 94 = .ok (.iconst 0, 1) := by decide +kernel
theorem dX11_isOwn_95 : decode cX11_isOwn 95 = .ok (.istore_n 1, 1) := by decide +kernel
theorem dX11_isOwn_96 : decode cX11_isOwn 96 = .ok (.iload_n 1, 1) := by decide +kernel
theorem dX11_isOwn_97 : decode cX11_isOwn 97 = .ok (.ifCond .ne 57, 3) := by decide +kernel
theorem dX11_isOwn_100 : decode cX11_isOwn 100 = .ok (.aload_n 0, 1) := by decide +kernel
theorem dX11_isOwn_101 : decode cX11_isOwn 101 = .ok (.ldc 210, 2) := by decide +kernel
theorem dX11_isOwn_103 : decode cX11_isOwn 103 = .ok (.invokevirtual 188, 3) := by decide +kernel
theorem dX11_isOwn_106 : decode cX11_isOwn 106 = .ok (.ifCond .ne 48, 3) := by decide +kernel
theorem dX11_isOwn_109 : decode cX11_isOwn 109 = .ok (.aload_n 0, 1) := by decide +kernel
theorem dX11_isOwn_110 : decode cX11_isOwn 110 = .ok (.ldc 211, 2) := by decide +kernel
theorem dX11_isOwn_112 : decode cX11_isOwn 112 = .ok (.invokevirtual 188, 3) := by decide +kernel
theorem dX11_isOwn_115 : decode cX11_isOwn 115 = .ok (.ifCond .ne 39, 3) := by decide +kernel
theorem dX11_isOwn_118 : decode cX11_isOwn 118 = .ok (.aload_n 0, 1) := by decide +kernel
theorem dX11_isOwn_119 : decode cX11_isOwn 119 = .ok (.ldc 212, 2) := by decide +kernel
theorem dX11_isOwn_121 : decode cX11_isOwn 121 = .ok (.invokevirtual 188, 3) := by decide +kernel
theorem dX11_isOwn_124 : decode cX11_isOwn 124 = .ok (.ifCond .ne 30, 3) := by decide +kernel
theorem dX11_isOwn_127 : decode cX11_isOwn 127 = .ok (.aload_n 0, 1) := by decide +kernel
theorem dX11_isOwn_128 : decode cX11_isOwn 128 = .ok (.ldc 214, 2) := by decide +kernel
theorem dX11_isOwn_130 : decode cX11_isOwn 130 = .ok (.invokevirtual 188, 3) := by decide +kernel
theorem dX11_isOwn_133 : decode cX11_isOwn 133 = .ok (.ifCond .ne 21, 3) := by decide +kernel
theorem dX11_isOwn_136 : decode cX11_isOwn 136 = .ok (.aload_n 0, 1) := by decide +kernel
theorem dX11_isOwn_137 : decode cX11_isOwn 137 = .ok (.ldc 216, 2) := by decide +kernel
theorem dX11_isOwn_139 : decode cX11_isOwn 139 = .ok (.invokevirtual 188, 3) := by decide +kernel
theorem dX11_isOwn_142 : decode cX11_isOwn 142 = .ok (.ifCond .ne 12, 3) := by decide +kernel
theorem dX11_isOwn_145 : decode cX11_isOwn 145 = .ok (.aload_n 0, 1) := by decide +kernel
theorem dX11_isOwn_146 : decode cX11_isOwn 146 = .ok (.ldc 218, 2) := by decide +kernel
theorem dX11_isOwn_148 : decode cX11_isOwn 148 = .ok (.invokevirtual 188, 3) := by decide +kernel
theorem dX11_isOwn_151 : decode cX11_isOwn 151 = .ok (.ifCond .eq 7, 3) := by decide +kernel
theorem dX11_isOwn_154 : decode cX11_isOwn 154 = .ok (.iconst 1, 1) := by decide +kernel
theorem dX11_isOwn_155 : decode cX11_isOwn 155 = .ok (.goto 4, 3) := by decide +kernel
theorem dX11_isOwn_158 : decode cX11_isOwn 158 = .ok (.iconst 0, 1) := by decide +kernel
theorem dX11_isOwn_159 : decode cX11_isOwn 159 = .ok (.ireturn, 1) := by decide +kernel
theorem dX11_isName_0 : decode cX11_isName 0 = .ok (.aload_n 0, 1) := by decide +kernel
theorem dX11_isName_1 : decode cX11_isName 1 = .ok (.getfield 142, 3) := by decide +kernel
theorem dX11_isName_4 : decode cX11_isName 4 = .ok (.iconst 1, 1) := by decide +kernel
theorem dX11_isName_5 : decode cX11_isName 5 = .ok (.if_icmp .ne 14, 3) := by decide +kernel
theorem dX11_isName_8 : decode cX11_isName 8 = .ok (.aload_n 0, 1) := by decide +kernel
theorem dX11_isName_9 : decode cX11_isName 9 = .ok (.invokevirtual 220, 3) := by decide +kernel
theorem dX11_isName_12 : decode cX11_isName 12 = .ok (.ifCond .ne 7, 3) := by decide +kernel
theorem dX11_isName_15 : decode cX11_isName 15 = .ok (.iconst 1, 1) := by decide +kernel
theorem dX11_isName_16 : decode cX11_isName 16 = .ok (.goto 4, 3) := by decide +kernel
theorem dX11_isName_19 : decode cX11_isName 19 = .ok (.iconst 0, 1) := by decide +kernel
theorem dX11_isName_20 : decode cX11_isName 20 = .ok (.ireturn, 1) := by decide +kernel
theorem dX11_number_0 : decode cX11_number 0 = .ok (.aload_n 0, 1) := by decide +kernel
theorem dX11_number_1 : decode cX11_number 1 = .ok (.aload_n 0, 1) := by decide +kernel
theorem dX11_number_2 : decode cX11_number 2 = .ok (.getfield 142, 3) := by decide +kernel
theorem dX11_number_5 : decode cX11_number 5 = .ok (.iconst 2, 1) := by decide +kernel
theorem dX11_number_6 : decode cX11_number 6 = .ok (.if_icmp .ne 7, 3) := by decide +kernel
theorem dX11_number_9 : decode cX11_number 9 = .ok (.iconst 1, 1) := by decide +kernel
theorem dX11_number_10 : decode cX11_number 10 = .ok (.goto 4, 3) := by decide +kernel
theorem dX11_number_13 : decode cX11_number 13 = .ok (.iconst 0, 1) := by decide +kernel
theorem dX11_number_14 : decode cX11_number 14 = .ok (.iconst 1, 1) := by decide +kernel
theorem dX11_number_15 : decode cX11_number 15 = .ok (.invokevirtual 224, 3) := by decide +kernel
theorem dX11_number_18 : decode cX11_number 18 = .ok (.ifCond .eq 23, 3) := by decide +kernel
theorem dX11_number_21 : decode cX11_number 21 = .ok (.aload_n 0, 1) := by decide +kernel
theorem dX11_number_22 : decode cX11_number 22 = .ok (.aload_n 0, 1) := by decide +kernel
theorem dX11_number_23 : decode cX11_number 23 = .ok (.getfield 145, 3) := by decide +kernel
theorem dX11_number_26 : decode cX11_number 26 = .ok (.i2l, 1) := by decide +kernel
theorem dX11_number_27 : decode cX11_number 27 = .ok (.iload_n 1, 1) := by decide +kernel
theorem dX11_number_28 : decode cX11_number 28 = .ok (.i2l, 1) := by decide +kernel
theorem dX11_number_29 : decode cX11_number 29 = .ok (.iload_n 2, 1) := by decide +kernel
theorem dX11_number_30 : decode cX11_number 30 = .ok (.i2l, 1) := by decide +kernel
theorem dX11_number_31 : decode cX11_number 31 = .ok (.invokestatic 156, 3) := by decide +kernel
theorem dX11_number_34 : decode cX11_number 34 = .ok (.iconst 3, 1) := by decide +kernel
theorem dX11_number_35 : decode cX11_number 35 = .ok (.invokevirtual 224, 3) := by decide +kernel
theorem dX11_number_38 : decode cX11_number 38 = .ok (.ifCond .ne 5, 3) := by decide +kernel
theorem dX11_number_41 : decode cX11_number 41 = .ok (.iload_n 1, 1) := by decide +kernel
theorem dX11_number_42 : decode cX11_number 42 = .ok (.ireturn, 1) := by decide +kernel
theorem dX11_number_43 : decode cX11_number 43 = .ok (.aload_n 0, 1) := by decide +kernel
theorem dX11_number_44 : decode cX11_number 44 = .ok (.getfield 145, 3) := by decide +kernel
theorem dX11_number_47 : decode cX11_number 47 = .ok (.istore_n 3, 1) := by decide +kernel
theorem dX11_number_48 : decode cX11_number 48 = .ok (.aload_n 0, 1) := by decide +kernel
theorem dX11_number_49 : decode cX11_number 49 = .ok (.invokevirtual 228, 3) := by decide +kernel
theorem dX11_number_52 : decode cX11_number 52 = .ok (.iload_n 3, 1) := by decide +kernel
theorem dX11_number_53 : decode cX11_number 53 = .ok (.ireturn, 1) := by decide +kernel
theorem dX11_takes_0 : decode cX11_takes 0 = .ok (.aload_n 0, 1) := by decide +kernel
theorem dX11_takes_1 : decode cX11_takes 1 = .ok (.aload_n 0, 1) := by decide +kernel
theorem dX11_takes_2 : decode cX11_takes 2 = .ok (.getfield 142, 3) := by decide +kernel
theorem dX11_takes_5 : decode cX11_takes 5 = .ok (.iload_n 1, 1) := by decide +kernel
theorem dX11_takes_6 : decode cX11_takes 6 = .ok (.if_icmp .ne 7, 3) := by decide +kernel
theorem dX11_takes_9 : decode cX11_takes 9 = .ok (.iconst 1, 1) := by decide +kernel
theorem dX11_takes_10 : decode cX11_takes 10 = .ok (.goto 4, 3) := by decide +kernel
theorem dX11_takes_13 : decode cX11_takes 13 = .ok (.iconst 0, 1) := by decide +kernel
theorem dX11_takes_14 : decode cX11_takes 14 = .ok (.iconst 1, 1) := by decide +kernel
theorem dX11_takes_15 : decode cX11_takes 15 = .ok (.invokevirtual 224, 3) := by decide +kernel
theorem dX11_takes_18 : decode cX11_takes 18 = .ok (.ifCond .eq 7, 3) := by decide +kernel
theorem dX11_takes_21 : decode cX11_takes 21 = .ok (.aload_n 0, 1) := by decide +kernel
theorem dX11_takes_22 : decode cX11_takes 22 = .ok (.invokevirtual 228, 3) := by decide +kernel
theorem dX11_takes_25 : decode cX11_takes 25 = .ok (.return_, 1) := by decide +kernel
theorem dX11_takesWord_0 : decode cX11_takesWord 0 = .ok (.aload_n 0, 1) := by decide +kernel
theorem dX11_takesWord_1 : decode cX11_takesWord 1 = .ok (.aload_n 0, 1) := by decide +kernel
theorem dX11_takesWord_2 : decode cX11_takesWord 2 = .ok (.aload_n 1, 1) := by decide +kernel
theorem dX11_takesWord_3 : decode cX11_takesWord 3 = .ok (.invokevirtual 188, 3) := by decide +kernel
theorem dX11_takesWord_6 : decode cX11_takesWord 6 = .ok (.iconst 1, 1) := by decide +kernel
theorem dX11_takesWord_7 : decode cX11_takesWord 7 = .ok (.invokevirtual 224, 3) := by decide +kernel
theorem dX11_takesWord_10 : decode cX11_takesWord 10 = .ok (.ifCond .eq 7, 3) := by decide +kernel
theorem dX11_takesWord_13 : decode cX11_takesWord 13 = .ok (.aload_n 0, 1) := by decide +kernel
theorem dX11_takesWord_14 : decode cX11_takesWord 14 = .ok (.invokevirtual 228, 3) := by decide +kernel
theorem dX11_takesWord_17 : decode cX11_takesWord 17 = .ok (.return_, 1) := by decide +kernel
theorem dX11_maybe_0 : decode cX11_maybe 0 = .ok (.aload_n 0, 1) := by decide +kernel
theorem dX11_maybe_1 : decode cX11_maybe 1 = .ok (.aload_n 1, 1) := by decide +kernel
theorem dX11_maybe_2 : decode cX11_maybe 2 = .ok (.invokevirtual 188, 3) := by decide +kernel
theorem dX11_maybe_5 : decode cX11_maybe 5 = .ok (.istore_n 2, 1) := by decide +kernel
theorem dX11_maybe_6 : decode cX11_maybe 6 = .ok (.iload_n 2, 1) := by decide +kernel
theorem dX11_maybe_7 : decode cX11_maybe 7 = .ok (.ifCond .eq 7, 3) := by decide +kernel
theorem dX11_maybe_10 : decode cX11_maybe 10 = .ok (.aload_n 0, 1) := by decide +kernel
theorem dX11_maybe_11 : decode cX11_maybe 11 = .ok (.invokevirtual 228, 3) := by decide +kernel
theorem dX11_maybe_14 : decode cX11_maybe 14 = .ok (.iload_n 2, 1) := by decide +kernel
theorem dX11_maybe_15 : decode cX11_maybe 15 = .ok (.ireturn, 1) := by decide +kernel
theorem dX11_usual_0 : decode cX11_usual 0 = .ok (.aload_n 0, 1) := by decide +kernel
theorem dX11_usual_1 : decode cX11_usual 1 = .ok (.getfield 17, 3) := by decide +kernel
theorem dX11_usual_4 : decode cX11_usual 4 = .ok (.iconst 4, 1) := by decide +kernel
theorem dX11_usual_5 : decode cX11_usual 5 = .ok (.iload_n 1, 1) := by decide +kernel
theorem dX11_usual_6 : decode cX11_usual 6 = .ok (.imul, 1) := by decide +kernel
theorem dX11_usual_7 : decode cX11_usual 7 = .ok (.iconst 0, 1) := by decide +kernel
theorem dX11_usual_8 : decode cX11_usual 8 = .ok (.iadd, 1) := by decide +kernel
theorem dX11_usual_9 : decode cX11_usual 9 = .ok (.bipush 60, 2) := by decide +kernel
theorem dX11_usual_11 : decode cX11_usual 11 = .ok (.iastore, 1) := by decide +kernel
theorem dX11_usual_12 : decode cX11_usual 12 = .ok (.aload_n 0, 1) := by decide +kernel
theorem dX11_usual_13 : decode cX11_usual 13 = .ok (.getfield 17, 3) := by decide +kernel
theorem dX11_usual_16 : decode cX11_usual 16 = .ok (.iconst 4, 1) := by decide +kernel
theorem dX11_usual_17 : decode cX11_usual 17 = .ok (.iload_n 1, 1) := by decide +kernel
theorem dX11_usual_18 : decode cX11_usual 18 = .ok (.imul, 1) := by decide +kernel
theorem dX11_usual_19 : decode cX11_usual 19 = .ok (.iconst 1, 1) := by decide +kernel
theorem dX11_usual_20 : decode cX11_usual 20 = .ok (.iadd, 1) := by decide +kernel
theorem dX11_usual_21 : decode cX11_usual 21 = .ok (.iconst 0, 1) := by decide +kernel
theorem dX11_usual_22 : decode cX11_usual 22 = .ok (.iastore, 1) := by decide +kernel
theorem dX11_usual_23 : decode cX11_usual 23 = .ok (.aload_n 0, 1) := by decide +kernel
theorem dX11_usual_24 : decode cX11_usual 24 = .ok (.getfield 17, 3) := by decide +kernel
theorem dX11_usual_27 : decode cX11_usual 27 = .ok (.iconst 4, 1) := by decide +kernel
theorem dX11_usual_28 : decode cX11_usual 28 = .ok (.iload_n 1, 1) := by decide +kernel
theorem dX11_usual_29 : decode cX11_usual 29 = .ok (.imul, 1) := by decide +kernel
theorem dX11_usual_30 : decode cX11_usual 30 = .ok (.iconst 2, 1) := by decide +kernel
theorem dX11_usual_31 : decode cX11_usual 31 = .ok (.iadd, 1) := by decide +kernel
theorem dX11_usual_32 : decode cX11_usual 32 = .ok (.sipush 1000, 3) := by decide +kernel
theorem dX11_usual_35 : decode cX11_usual 35 = .ok (.iastore, 1) := by decide +kernel
theorem dX11_usual_36 : decode cX11_usual 36 = .ok (.aload_n 0, 1) := by decide +kernel
theorem dX11_usual_37 : decode cX11_usual 37 = .ok (.getfield 17, 3) := by decide +kernel
theorem dX11_usual_40 : decode cX11_usual 40 = .ok (.iconst 4, 1) := by decide +kernel
theorem dX11_usual_41 : decode cX11_usual 41 = .ok (.iload_n 1, 1) := by decide +kernel
theorem dX11_usual_42 : decode cX11_usual 42 = .ok (.imul, 1) := by decide +kernel
theorem dX11_usual_43 : decode cX11_usual 43 = .ok (.iconst 3, 1) := by decide +kernel
theorem dX11_usual_44 : decode cX11_usual 44 = .ok (.iadd, 1) := by decide +kernel
theorem dX11_usual_45 : decode cX11_usual 45 = .ok (.iconst 1, 1) := by decide +kernel
theorem dX11_usual_46 : decode cX11_usual 46 = .ok (.iastore, 1) := by decide +kernel
theorem dX11_usual_47 : decode cX11_usual 47 = .ok (.iconst 0, 1) := by decide +kernel
theorem dX11_usual_48 : decode cX11_usual 48 = .ok (.istore_n 2, 1) := by decide +kernel
theorem dX11_usual_49 : decode cX11_usual 49 = .ok (.iload_n 2, 1) := by decide +kernel
theorem dX11_usual_50 : decode cX11_usual 50 = .ok (.bipush 6, 2) := by decide +kernel
theorem dX11_usual_52 : decode cX11_usual 52 = .ok (.if_icmp .ge 21, 3) := by decide +kernel
theorem dX11_usual_55 : decode cX11_usual 55 = .ok (.aload_n 0, 1) := by decide +kernel
theorem dX11_usual_56 : decode cX11_usual 56 = .ok (.getfield 13, 3) := by decide +kernel
theorem dX11_usual_59 : decode cX11_usual 59 = .ok (.bipush 6, 2) := by decide +kernel
theorem dX11_usual_61 : decode cX11_usual 61 = .ok (.iload_n 1, 1) := by decide +kernel
theorem dX11_usual_62 : decode cX11_usual 62 = .ok (.imul, 1) := by decide +kernel
theorem dX11_usual_63 : decode cX11_usual 63 = .ok (.iload_n 2, 1) := by decide +kernel
theorem dX11_usual_64 : decode cX11_usual 64 = .ok (.iadd, 1) := by decide +kernel
theorem dX11_usual_65 : decode cX11_usual 65 = .ok (.iconst 0, 1) := by decide +kernel
theorem dX11_usual_66 : decode cX11_usual 66 = .ok (.iastore, 1) := by decide +kernel
theorem dX11_usual_67 : decode cX11_usual 67 = .ok (.iinc 2 1, 3) := by decide +kernel
theorem dX11_usual_70 : decode cX11_usual 70 = .ok (.goto (-21), 3) := by decide +kernel
theorem dX11_usual_73 : decode cX11_usual 73 = .ok (.iconst 0, 1) := by decide +kernel
theorem dX11_usual_74 : decode cX11_usual 74 = .ok (.istore_n 2, 1) := by decide +kernel
theorem dX11_usual_75 : decode cX11_usual 75 = .ok (.iload_n 2, 1) := by decide +kernel
theorem dX11_usual_76 : decode cX11_usual 76 = .ok (.iconst 4, 1) := by decide +kernel
theorem dX11_usual_77 : decode cX11_usual 77 = .ok (.if_icmp .ge 16, 3) := by decide +kernel
theorem dX11_usual_80 : decode cX11_usual 80 = .ok (.aload_n 0, 1) := by decide +kernel
theorem dX11_usual_81 : decode cX11_usual 81 = .ok (.getfield 20, 3) := by decide +kernel
theorem dX11_usual_84 : decode cX11_usual 84 = .ok (.iload_n 2, 1) := by decide +kernel
theorem dX11_usual_85 : decode cX11_usual 85 = .ok (.iconst 0, 1) := by decide +kernel
theorem dX11_usual_86 : decode cX11_usual 86 = .ok (.bastore, 1) := by decide +kernel
theorem dX11_usual_87 : decode cX11_usual 87 = .ok (.iinc 2 1, 3) := by decide +kernel
theorem dX11_usual_90 : decode cX11_usual 90 = .ok (.goto (-15), 3) := by decide +kernel
theorem dX11_usual_93 : decode cX11_usual 93 = .ok (.return_, 1) := by decide +kernel
theorem dX11_read_0 : decode cX11_read 0 = .ok (.aload_n 0, 1) := by decide +kernel
theorem dX11_read_1 : decode cX11_read 1 = .ok (.getfield 13, 3) := by decide +kernel
theorem dX11_read_4 : decode cX11_read 4 = .ok (.bipush 6, 2) := by decide +kernel
theorem dX11_read_6 : decode cX11_read 6 = .ok (.iload_n 1, 1) := by decide +kernel
theorem dX11_read_7 : decode cX11_read 7 = .ok (.iadd, 1) := by decide +kernel
theorem dX11_read_8 : decode cX11_read 8 = .ok (.iaload, 1) := by decide +kernel
theorem dX11_read_9 : decode cX11_read 9 = .ok (.ireturn, 1) := by decide +kernel
theorem dX11_named_0 : decode cX11_named 0 = .ok (.iconst 0, 1) := by decide +kernel
theorem dX11_named_1 : decode cX11_named 1 = .ok (.istore_n 2, 1) := by decide +kernel
theorem dX11_named_2 : decode cX11_named 2 = .ok (.iload_n 2, 1) := by decide +kernel
theorem dX11_named_3 : decode cX11_named 3 = .ok (.aload_n 0, 1) := by decide +kernel
theorem dX11_named_4 : decode cX11_named 4 = .ok (.iload_n 1, 1) := by decide +kernel
theorem dX11_named_5 : decode cX11_named 5 = .ok (.invokevirtual 231, 3) := by decide +kernel
theorem dX11_named_8 : decode cX11_named 8 = .ok (.if_icmp .ge 33, 3) := by decide +kernel
theorem dX11_named_11 : decode cX11_named 11 = .ok (.aload_n 0, 1) := by decide +kernel
theorem dX11_named_12 : decode cX11_named 12 = .ok (.getfield 24, 3) := by decide +kernel
theorem dX11_named_15 : decode cX11_named 15 = .ok (.bipush 40, 2) := by decide +kernel
theorem dX11_named_17 : decode cX11_named 17 = .ok (.bipush 8, 2) := by decide +kernel
theorem dX11_named_19 : decode cX11_named 19 = .ok (.iload_n 1, 1) := by decide +kernel
