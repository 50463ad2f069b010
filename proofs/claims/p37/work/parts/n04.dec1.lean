theorem dX10_frame_32 : decode cX10_frame 32 = .ok (.iload_n 3, 1) := by decide +kernel
theorem dX10_frame_33 : decode cX10_frame 33 = .ok (.iconst 3, 1) := by decide +kernel
theorem dX10_frame_34 : decode cX10_frame 34 = .ok (.if_icmp .le 13, 3) := by decide +kernel
theorem dX10_frame_37 : decode cX10_frame 37 = .ok (.new 203, 3) := by decide +kernel
theorem dX10_frame_40 : decode cX10_frame 40 = .ok (.dup, 1) := by decide +kernel
theorem dX10_frame_41 : decode cX10_frame 41 = .ok (.ldc 205, 2) := by decide +kernel
theorem dX10_frame_43 : decode cX10_frame 43 = .ok (.invokespecial 207, 3) := by decide +kernel
theorem dX10_frame_46 : decode cX10_frame 46 = .ok (.athrow, 1) := by decide +kernel
theorem dX10_frame_47 : decode cX10_frame 47 = .ok (.aload_n 0, 1) := by decide +kernel
theorem dX10_frame_48 : decode cX10_frame 48 = .ok (.getfield 16, 3) := by decide +kernel
theorem dX10_frame_51 : decode cX10_frame 51 = .ok (.getfield 169, 3) := by decide +kernel
theorem dX10_frame_54 : decode cX10_frame 54 = .ok (.iload_n 1, 1) := by decide +kernel
theorem dX10_frame_55 : decode cX10_frame 55 = .ok (.aaload, 1) := by decide +kernel
theorem dX10_frame_56 : decode cX10_frame 56 = .ok (.astore 4, 2) := by decide +kernel
theorem dX10_frame_58 : decode cX10_frame 58 = .ok (.iload_n 3, 1) := by decide +kernel
theorem dX10_frame_59 : decode cX10_frame 59 = .ok (.ifCond .ne 11, 3) := by decide +kernel
theorem dX10_frame_62 : decode cX10_frame 62 = .ok (.aload 4, 2) := by decide +kernel
theorem dX10_frame_64 : decode cX10_frame 64 = .ok (.getfield 210, 3) := by decide +kernel
theorem dX10_frame_67 : decode cX10_frame 67 = .ok (.iload_n 2, 1) := by decide +kernel
theorem dX10_frame_68 : decode cX10_frame 68 = .ok (.iaload, 1) := by decide +kernel
theorem dX10_frame_69 : decode cX10_frame 69 = .ok (.ireturn, 1) := by decide +kernel
theorem dX10_frame_70 : decode cX10_frame 70 = .ok (.iload_n 3, 1) := by decide +kernel
theorem dX10_frame_71 : decode cX10_frame 71 = .ok (.iconst 1, 1) := by decide +kernel
theorem dX10_frame_72 : decode cX10_frame 72 = .ok (.if_icmp .ne 11, 3) := by decide +kernel
theorem dX10_frame_75 : decode cX10_frame 75 = .ok (.aload 4, 2) := by decide +kernel
theorem dX10_frame_77 : decode cX10_frame 77 = .ok (.getfield 213, 3) := by decide +kernel
theorem dX10_frame_80 : decode cX10_frame 80 = .ok (.iload_n 2, 1) := by decide +kernel
theorem dX10_frame_81 : decode cX10_frame 81 = .ok (.iaload, 1) := by decide +kernel
theorem dX10_frame_82 : decode cX10_frame 82 = .ok (.ireturn, 1) := by decide +kernel
theorem dX10_frame_83 : decode cX10_frame 83 = .ok (.iload_n 3, 1) := by decide +kernel
theorem dX10_frame_84 : decode cX10_frame 84 = .ok (.iconst 2, 1) := by decide +kernel
theorem dX10_frame_85 : decode cX10_frame 85 = .ok (.if_icmp .ne 13, 3) := by decide +kernel
theorem dX10_frame_88 : decode cX10_frame 88 = .ok (.aload 4, 2) := by decide +kernel
theorem dX10_frame_90 : decode cX10_frame 90 = .ok (.getfield 216, 3) := by decide +kernel
theorem dX10_frame_93 : decode cX10_frame 93 = .ok (.iload_n 2, 1) := by decide +kernel
theorem dX10_frame_94 : decode cX10_frame 94 = .ok (.iaload, 1) := by decide +kernel
theorem dX10_frame_95 : decode cX10_frame 95 = .ok (.goto 10, 3) := by decide +kernel
theorem dX10_frame_98 : decode cX10_frame 98 = .ok (.aload 4, 2) := by decide +kernel
theorem dX10_frame_100 : decode cX10_frame 100 = .ok (.getfield 219, 3) := by decide +kernel
theorem dX10_frame_103 : decode cX10_frame 103 = .ok (.iload_n 2, 1) := by decide +kernel
theorem dX10_frame_104 : decode cX10_frame 104 = .ok (.iaload, 1) := by decide +kernel
theorem dX10_frame_105 : decode cX10_frame 105 = .ok (.ireturn, 1) := by decide +kernel
theorem dX10_isPlay_0 : decode cX10_isPlay 0 = .ok (.iload_n 1, 1) := by decide +kernel
theorem dX10_isPlay_1 : decode cX10_isPlay 1 = .ok (.ifCond .lt 18, 3) := by decide +kernel
theorem dX10_isPlay_4 : decode cX10_isPlay 4 = .ok (.iload_n 1, 1) := by decide +kernel
theorem dX10_isPlay_5 : decode cX10_isPlay 5 = .ok (.aload_n 0, 1) := by decide +kernel
theorem dX10_isPlay_6 : decode cX10_isPlay 6 = .ok (.getfield 16, 3) := by decide +kernel
theorem dX10_isPlay_9 : decode cX10_isPlay 9 = .ok (.getfield 102, 3) := by decide +kernel
theorem dX10_isPlay_12 : decode cX10_isPlay 12 = .ok (.if_icmp .ge 7, 3) := by decide +kernel
theorem dX10_isPlay_15 : decode cX10_isPlay 15 = .ok (.iconst 1, 1) := by decide +kernel
theorem dX10_isPlay_16 : decode cX10_isPlay 16 = .ok (.goto 4, 3) := by decide +kernel
theorem dX10_isPlay_19 : decode cX10_isPlay 19 = .ok (.iconst 0, 1) := by decide +kernel
theorem dX10_isPlay_20 : decode cX10_isPlay 20 = .ok (.ireturn, 1) := by decide +kernel
theorem dX10_verdict_0 : decode cX10_verdict 0 = .ok (.aload_n 0, 1) := by decide +kernel
theorem dX10_verdict_1 : decode cX10_verdict 1 = .ok (.iload_n 1, 1) := by decide +kernel
theorem dX10_verdict_2 : decode cX10_verdict 2 = .ok (.invokevirtual 184, 3) := by decide +kernel
theorem dX10_verdict_5 : decode cX10_verdict 5 = .ok (.ifCond .eq 23, 3) := by decide +kernel
theorem dX10_verdict_8 : decode cX10_verdict 8 = .ok (.iload_n 2, 1) := by decide +kernel
theorem dX10_verdict_9 : decode cX10_verdict 9 = .ok (.ifCond .lt 19, 3) := by decide +kernel
theorem dX10_verdict_12 : decode cX10_verdict 12 = .ok (.iload_n 2, 1) := by decide +kernel
theorem dX10_verdict_13 : decode cX10_verdict 13 = .ok (.aload_n 0, 1) := by decide +kernel
theorem dX10_verdict_14 : decode cX10_verdict 14 = .ok (.getfield 16, 3) := by decide +kernel
theorem dX10_verdict_17 : decode cX10_verdict 17 = .ok (.getfield 169, 3) := by decide +kernel
theorem dX10_verdict_20 : decode cX10_verdict 20 = .ok (.iload_n 1, 1) := by decide +kernel
theorem dX10_verdict_21 : decode cX10_verdict 21 = .ok (.aaload, 1) := by decide +kernel
theorem dX10_verdict_22 : decode cX10_verdict 22 = .ok (.getfield 194, 3) := by decide +kernel
theorem dX10_verdict_25 : decode cX10_verdict 25 = .ok (.if_icmp .le 5, 3) := by decide +kernel
theorem dX10_verdict_28 : decode cX10_verdict 28 = .ok (.iconst (-1), 1) := by decide +kernel
theorem dX10_verdict_29 : decode cX10_verdict 29 = .ok (.ireturn, 1) := by decide +kernel
theorem dX10_verdict_30 : decode cX10_verdict 30 = .ok (.aload_n 0, 1) := by decide +kernel
theorem dX10_verdict_31 : decode cX10_verdict 31 = .ok (.getfield 35, 3) := by decide +kernel
theorem dX10_verdict_34 : decode cX10_verdict 34 = .ok (.aload_n 0, 1) := by decide +kernel
theorem dX10_verdict_35 : decode cX10_verdict 35 = .ok (.getfield 16, 3) := by decide +kernel
theorem dX10_verdict_38 : decode cX10_verdict 38 = .ok (.aload_n 0, 1) := by decide +kernel
theorem dX10_verdict_39 : decode cX10_verdict 39 = .ok (.getfield 16, 3) := by decide +kernel
theorem dX10_verdict_42 : decode cX10_verdict 42 = .ok (.getfield 169, 3) := by decide +kernel
theorem dX10_verdict_45 : decode cX10_verdict 45 = .ok (.iload_n 1, 1) := by decide +kernel
theorem dX10_verdict_46 : decode cX10_verdict 46 = .ok (.aaload, 1) := by decide +kernel
theorem dX10_verdict_47 : decode cX10_verdict 47 = .ok (.iconst 1, 1) := by decide +kernel
theorem dX10_verdict_48 : decode cX10_verdict 48 = .ok (.iload_n 2, 1) := by decide +kernel
theorem dX10_verdict_49 : decode cX10_verdict 49 = .ok (.ishl, 1) := by decide +kernel
theorem dX10_verdict_50 : decode cX10_verdict 50 = .ok (.iconst 1, 1) := by decide +kernel
theorem dX10_verdict_51 : decode cX10_verdict 51 = .ok (.isub, 1) := by decide +kernel
theorem dX10_verdict_52 : decode cX10_verdict 52 = .ok (.invokevirtual 228, 3) := by decide +kernel
theorem dX10_verdict_55 : decode cX10_verdict 55 = .ok (.ireturn, 1) := by decide +kernel
theorem dX10_by_0 : decode cX10_by 0 = .ok (.aload_n 0, 1) := by decide +kernel
theorem dX10_by_1 : decode cX10_by 1 = .ok (.iload_n 1, 1) := by decide +kernel
theorem dX10_by_2 : decode cX10_by 2 = .ok (.invokevirtual 184, 3) := by decide +kernel
theorem dX10_by_5 : decode cX10_by 5 = .ok (.ifCond .eq 17, 3) := by decide +kernel
theorem dX10_by_8 : decode cX10_by 8 = .ok (.iload_n 2, 1) := by decide +kernel
theorem dX10_by_9 : decode cX10_by 9 = .ok (.aload_n 0, 1) := by decide +kernel
theorem dX10_by_10 : decode cX10_by 10 = .ok (.getfield 16, 3) := by decide +kernel
theorem dX10_by_13 : decode cX10_by 13 = .ok (.invokevirtual 232, 3) := by decide +kernel
theorem dX10_by_16 : decode cX10_by 16 = .ok (.iconst (-1), 1) := by decide +kernel
theorem dX10_by_17 : decode cX10_by 17 = .ok (.ixor, 1) := by decide +kernel
theorem dX10_by_18 : decode cX10_by 18 = .ok (.iand, 1) := by decide +kernel
theorem dX10_by_19 : decode cX10_by 19 = .ok (.ifCond .eq 5, 3) := by decide +kernel
theorem dX10_by_22 : decode cX10_by 22 = .ok (.iconst (-1), 1) := by decide +kernel
theorem dX10_by_23 : decode cX10_by 23 = .ok (.ireturn, 1) := by decide +kernel
theorem dX10_by_24 : decode cX10_by 24 = .ok (.aload_n 0, 1) := by decide +kernel
theorem dX10_by_25 : decode cX10_by 25 = .ok (.getfield 35, 3) := by decide +kernel
theorem dX10_by_28 : decode cX10_by 28 = .ok (.aload_n 0, 1) := by decide +kernel
theorem dX10_by_29 : decode cX10_by 29 = .ok (.getfield 16, 3) := by decide +kernel
theorem dX10_by_32 : decode cX10_by 32 = .ok (.aload_n 0, 1) := by decide +kernel
theorem dX10_by_33 : decode cX10_by 33 = .ok (.getfield 16, 3) := by decide +kernel
theorem dX10_by_36 : decode cX10_by 36 = .ok (.getfield 169, 3) := by decide +kernel
theorem dX10_by_39 : decode cX10_by 39 = .ok (.iload_n 1, 1) := by decide +kernel
theorem dX10_by_40 : decode cX10_by 40 = .ok (.aaload, 1) := by decide +kernel
theorem dX10_by_41 : decode cX10_by 41 = .ok (.aload_n 0, 1) := by decide +kernel
theorem dX10_by_42 : decode cX10_by 42 = .ok (.getfield 16, 3) := by decide +kernel
theorem dX10_by_45 : decode cX10_by 45 = .ok (.getfield 169, 3) := by decide +kernel
theorem dX10_by_48 : decode cX10_by 48 = .ok (.iload_n 1, 1) := by decide +kernel
theorem dX10_by_49 : decode cX10_by 49 = .ok (.aaload, 1) := by decide +kernel
theorem dX10_by_50 : decode cX10_by 50 = .ok (.iload_n 2, 1) := by decide +kernel
theorem dX10_by_51 : decode cX10_by 51 = .ok (.invokevirtual 236, 3) := by decide +kernel
theorem dX10_by_54 : decode cX10_by 54 = .ok (.invokevirtual 228, 3) := by decide +kernel
theorem dX10_by_57 : decode cX10_by 57 = .ok (.ireturn, 1) := by decide +kernel
theorem dX10_gap_0 : decode cX10_gap 0 = .ok (.aload_n 0, 1) := by decide +kernel
theorem dX10_gap_1 : decode cX10_gap 1 = .ok (.iload_n 1, 1) := by decide +kernel
theorem dX10_gap_2 : decode cX10_gap 2 = .ok (.invokevirtual 184, 3) := by decide +kernel
theorem dX10_gap_5 : decode cX10_gap 5 = .ok (.ifCond .eq 21, 3) := by decide +kernel
theorem dX10_gap_8 : decode cX10_gap 8 = .ok (.iload_n 2, 1) := by decide +kernel
theorem dX10_gap_9 : decode cX10_gap 9 = .ok (.ifCond .lt 17, 3) := by decide +kernel
theorem dX10_gap_12 : decode cX10_gap 12 = .ok (.iload_n 2, 1) := by decide +kernel
theorem dX10_gap_13 : decode cX10_gap 13 = .ok (.iconst 4, 1) := by decide +kernel
theorem dX10_gap_14 : decode cX10_gap 14 = .ok (.if_icmp .ge 12, 3) := by decide +kernel
theorem dX10_gap_17 : decode cX10_gap 17 = .ok (.iload_n 3, 1) := by decide +kernel
theorem dX10_gap_18 : decode cX10_gap 18 = .ok (.ifCond .lt 8, 3) := by decide +kernel
theorem dX10_gap_21 : decode cX10_gap 21 = .ok (.iload_n 3, 1) := by decide +kernel
theorem dX10_gap_22 : decode cX10_gap 22 = .ok (.iconst 4, 1) := by decide +kernel
theorem dX10_gap_23 : decode cX10_gap 23 = .ok (.if_icmp .lt 6, 3) := by decide +kernel
theorem dX10_gap_26 : decode cX10_gap 26 = .ok (.ldc 239, 2) := by decide +kernel
theorem dX10_gap_28 : decode cX10_gap 28 = .ok (.ireturn, 1) := by decide +kernel
theorem dX10_gap_29 : decode cX10_gap 29 = .ok (.aload_n 0, 1) := by decide +kernel
theorem dX10_gap_30 : decode cX10_gap 30 = .ok (.getfield 35, 3) := by decide +kernel
theorem dX10_gap_33 : decode cX10_gap 33 = .ok (.aload_n 0, 1) := by decide +kernel
theorem dX10_gap_34 : decode cX10_gap 34 = .ok (.getfield 16, 3) := by decide +kernel
theorem dX10_gap_37 : decode cX10_gap 37 = .ok (.aload_n 0, 1) := by decide +kernel
theorem dX10_gap_38 : decode cX10_gap 38 = .ok (.getfield 16, 3) := by decide +kernel
theorem dX10_gap_41 : decode cX10_gap 41 = .ok (.getfield 169, 3) := by decide +kernel
theorem dX10_gap_44 : decode cX10_gap 44 = .ok (.iload_n 1, 1) := by decide +kernel
theorem dX10_gap_45 : decode cX10_gap 45 = .ok (.aaload, 1) := by decide +kernel
theorem dX10_gap_46 : decode cX10_gap 46 = .ok (.aload_n 0, 1) := by decide +kernel
theorem dX10_gap_47 : decode cX10_gap 47 = .ok (.getfield 16, 3) := by decide +kernel
theorem dX10_gap_50 : decode cX10_gap 50 = .ok (.getfield 169, 3) := by decide +kernel
theorem dX10_gap_53 : decode cX10_gap 53 = .ok (.iload_n 1, 1) := by decide +kernel
theorem dX10_gap_54 : decode cX10_gap 54 = .ok (.aaload, 1) := by decide +kernel
theorem dX10_gap_55 : decode cX10_gap 55 = .ok (.invokevirtual 240, 3) := by decide +kernel
theorem dX10_gap_58 : decode cX10_gap 58 = .ok (.invokevirtual 243, 3) := by decide +kernel
theorem dX10_gap_61 : decode cX10_gap 61 = .ok (.astore 5, 2) := by decide +kernel
theorem dX10_gap_63 : decode cX10_gap 63 = .ok (.aload 5, 2) := by decide +kernel
theorem dX10_gap_65 : decode cX10_gap 65 = .ok (.getfield 118, 3) := by decide +kernel
theorem dX10_gap_68 : decode cX10_gap 68 = .ok (.ifCond .eq 6, 3) := by decide +kernel
theorem dX10_gap_71 : decode cX10_gap 71 = .ok (.ldc 247, 2) := by decide +kernel
theorem dX10_gap_73 : decode cX10_gap 73 = .ok (.ireturn, 1) := by decide +kernel
theorem dX10_gap_74 : decode cX10_gap 74 = .ok (.iload 4, 2) := by decide +kernel
theorem dX10_gap_76 : decode cX10_gap 76 = .ok (.ifCond .eq 13, 3) := by decide +kernel
theorem dX10_gap_79 : decode cX10_gap 79 = .ok (.aload 5, 2) := by decide +kernel
theorem dX10_gap_81 : decode cX10_gap 81 = .ok (.iload_n 3, 1) := by decide +kernel
theorem dX10_gap_82 : decode cX10_gap 82 = .ok (.iload_n 2, 1) := by decide +kernel
theorem dX10_gap_83 : decode cX10_gap 83 = .ok (.invokevirtual 248, 3) := by decide +kernel
theorem dX10_gap_86 : decode cX10_gap 86 = .ok (.goto 10, 3) := by decide +kernel
theorem dX10_gap_89 : decode cX10_gap 89 = .ok (.aload 5, 2) := by decide +kernel
theorem dX10_gap_91 : decode cX10_gap 91 = .ok (.iload_n 2, 1) := by decide +kernel
theorem dX10_gap_92 : decode cX10_gap 92 = .ok (.iload_n 3, 1) := by decide +kernel
theorem dX10_gap_93 : decode cX10_gap 93 = .ok (.invokevirtual 248, 3) := by decide +kernel
theorem dX10_gap_96 : decode cX10_gap 96 = .ok (.istore 6, 2) := by decide +kernel
theorem dX10_gap_98 : decode cX10_gap 98 = .ok (.iload 6, 2) := by decide +kernel
theorem dX10_gap_100 : decode cX10_gap 100 = .ok (.ldc 252, 2) := by decide +kernel
theorem dX10_gap_102 : decode cX10_gap 102 = .ok (.if_icmp .ne 6, 3) := by decide +kernel
theorem dX10_gap_105 : decode cX10_gap 105 = .ok (.ldc 253, 2) := by decide +kernel
theorem dX10_gap_107 : decode cX10_gap 107 = .ok (.ireturn, 1) := by decide +kernel
theorem dX10_gap_108 : decode cX10_gap 108 = .ok (.iload 4, 2) := by decide +kernel
theorem dX10_gap_110 : decode cX10_gap 110 = .ok (.ifCond .eq 8, 3) := by decide +kernel
theorem dX10_gap_113 : decode cX10_gap 113 = .ok (.iload 6, 2) := by decide +kernel
theorem dX10_gap_115 : decode cX10_gap 115 = .ok (.goto 6, 3) := by decide +kernel
theorem dX10_gap_118 : decode cX10_gap 118 = .ok (.iload 6, 2) := by decide +kernel
theorem dX10_gap_120 : decode cX10_gap 120 = .ok (.ineg, 1) := by decide +kernel
theorem dX10_gap_121 : decode cX10_gap 121 = .ok (.ireturn, 1) := by decide +kernel
theorem dX10_fewest_0 : decode cX10_fewest 0 = .ok (.aload_n 0, 1) := by decide +kernel
theorem dX10_fewest_1 : decode cX10_fewest 1 = .ok (.iload_n 1, 1) := by decide +kernel
theorem dX10_fewest_2 : decode cX10_fewest 2 = .ok (.invokevirtual 184, 3) := by decide +kernel
theorem dX10_fewest_5 : decode cX10_fewest 5 = .ok (.ifCond .eq 26, 3) := by decide +kernel
theorem dX10_fewest_8 : decode cX10_fewest 8 = .ok (.aload_n 0, 1) := by decide +kernel
theorem dX10_fewest_9 : decode cX10_fewest 9 = .ok (.getfield 35, 3) := by decide +kernel
theorem dX10_fewest_12 : decode cX10_fewest 12 = .ok (.aload_n 0, 1) := by decide +kernel
theorem dX10_fewest_13 : decode cX10_fewest 13 = .ok (.getfield 16, 3) := by decide +kernel
theorem dX10_fewest_16 : decode cX10_fewest 16 = .ok (.aload_n 0, 1) := by decide +kernel
theorem dX10_fewest_17 : decode cX10_fewest 17 = .ok (.getfield 16, 3) := by decide +kernel
theorem dX10_fewest_20 : decode cX10_fewest 20 = .ok (.getfield 169, 3) := by decide +kernel
theorem dX10_fewest_23 : decode cX10_fewest 23 = .ok (.iload_n 1, 1) := by decide +kernel
theorem dX10_fewest_24 : decode cX10_fewest 24 = .ok (.aaload, 1) := by decide +kernel
theorem dX10_fewest_25 : decode cX10_fewest 25 = .ok (.invokevirtual 254, 3) := by decide +kernel
theorem dX10_fewest_28 : decode cX10_fewest 28 = .ok (.goto 4, 3) := by decide +kernel
theorem dX10_fewest_31 : decode cX10_fewest 31 = .ok (.iconst (-1), 1) := by decide +kernel
theorem dX10_fewest_32 : decode cX10_fewest 32 = .ok (.ireturn, 1) := by decide +kernel
theorem dX10_key_0 : decode cX10_key 0 = .ok (.aload_n 0, 1) := by decide +kernel
theorem dX10_key_1 : decode cX10_key 1 = .ok (.iload_n 1, 1) := by decide +kernel
theorem dX10_key_2 : decode cX10_key 2 = .ok (.invokevirtual 184, 3) := by decide +kernel
theorem dX10_key_5 : decode cX10_key 5 = .ok (.ifCond .eq 26, 3) := by decide +kernel
theorem dX10_key_8 : decode cX10_key 8 = .ok (.aload_n 0, 1) := by decide +kernel
theorem dX10_key_9 : decode cX10_key 9 = .ok (.getfield 35, 3) := by decide +kernel
theorem dX10_key_12 : decode cX10_key 12 = .ok (.aload_n 0, 1) := by decide +kernel
theorem dX10_key_13 : decode cX10_key 13 = .ok (.getfield 16, 3) := by decide +kernel
theorem dX10_key_16 : decode cX10_key 16 = .ok (.aload_n 0, 1) := by decide +kernel
theorem dX10_key_17 : decode cX10_key 17 = .ok (.getfield 16, 3) := by decide +kernel
theorem dX10_key_20 : decode cX10_key 20 = .ok (.getfield 169, 3) := by decide +kernel
theorem dX10_key_23 : decode cX10_key 23 = .ok (.iload_n 1, 1) := by decide +kernel
theorem dX10_key_24 : decode cX10_key 24 = .ok (.aaload, 1) := by decide +kernel
theorem dX10_key_25 : decode cX10_key 25 = .ok (.invokevirtual 258, 3) := by decide +kernel
theorem dX10_key_28 : decode cX10_key 28 = .ok (.goto 4, 3) := by decide +kernel
theorem dX10_key_31 : decode cX10_key 31 = .ok (.iconst (-1), 1) := by decide +kernel
theorem dX10_key_32 : decode cX10_key 32 = .ok (.ireturn, 1) := by decide +kernel
theorem dX10_enough_0 : decode cX10_enough 0 = .ok (.aload_n 0, 1) := by decide +kernel
theorem dX10_enough_1 : decode cX10_enough 1 = .ok (.iload_n 1, 1) := by decide +kernel
theorem dX10_enough_2 : decode cX10_enough 2 = .ok (.invokevirtual 184, 3) := by decide +kernel
theorem dX10_enough_5 : decode cX10_enough 5 = .ok (.ifCond .eq 26, 3) := by decide +kernel
theorem dX10_enough_8 : decode cX10_enough 8 = .ok (.aload_n 0, 1) := by decide +kernel
theorem dX10_enough_9 : decode cX10_enough 9 = .ok (.getfield 35, 3) := by decide +kernel
theorem dX10_enough_12 : decode cX10_enough 12 = .ok (.aload_n 0, 1) := by decide +kernel
theorem dX10_enough_13 : decode cX10_enough 13 = .ok (.getfield 16, 3) := by decide +kernel
theorem dX10_enough_16 : decode cX10_enough 16 = .ok (.aload_n 0, 1) := by decide +kernel
theorem dX10_enough_17 : decode cX10_enough 17 = .ok (.getfield 16, 3) := by decide +kernel
theorem dX10_enough_20 : decode cX10_enough 20 = .ok (.getfield 169, 3) := by decide +kernel
theorem dX10_enough_23 : decode cX10_enough 23 = .ok (.iload_n 1, 1) := by decide +kernel
theorem dX10_enough_24 : decode cX10_enough 24 = .ok (.aaload, 1) := by decide +kernel
theorem dX10_enough_25 : decode cX10_enough 25 = .ok (.invokevirtual 261, 3) := by decide +kernel
theorem dX10_enough_28 : decode cX10_enough 28 = .ok (.goto 4, 3) := by decide +kernel
theorem dX10_enough_31 : decode cX10_enough 31 = .ok (.iconst (-1), 1) := by decide +kernel
theorem dX10_enough_32 : decode cX10_enough 32 = .ok (.ireturn, 1) := by decide +kernel
theorem dX10_mend_0 : decode cX10_mend 0 = .ok (.aload_n 0, 1) := by decide +kernel
theorem dX10_mend_1 : decode cX10_mend 1 = .ok (.iload_n 1, 1) := by decide +kernel
theorem dX10_mend_2 : decode cX10_mend 2 = .ok (.invokevirtual 184, 3) := by decide +kernel
theorem dX10_mend_5 : decode cX10_mend 5 = .ok (.ifCond .eq 26, 3) := by decide +kernel
theorem dX10_mend_8 : decode cX10_mend 8 = .ok (.aload_n 0, 1) := by decide +kernel
theorem dX10_mend_9 : decode cX10_mend 9 = .ok (.getfield 35, 3) := by decide +kernel
theorem dX10_mend_12 : decode cX10_mend 12 = .ok (.aload_n 0, 1) := by decide +kernel
theorem dX10_mend_13 : decode cX10_mend 13 = .ok (.getfield 16, 3) := by decide +kernel
theorem dX10_mend_16 : decode cX10_mend 16 = .ok (.aload_n 0, 1) := by decide +kernel
theorem dX10_mend_17 : decode cX10_mend 17 = .ok (.getfield 16, 3) := by decide +kernel
theorem dX10_mend_20 : decode cX10_mend 20 = .ok (.getfield 169, 3) := by decide +kernel
theorem dX10_mend_23 : decode cX10_mend 23 = .ok (.iload_n 1, 1) := by decide +kernel
theorem dX10_mend_24 : decode cX10_mend 24 = .ok (.aaload, 1) := by decide +kernel
theorem dX10_mend_25 : decode cX10_mend 25 = .ok (.invokevirtual 264, 3) := by decide +kernel
theorem dX10_mend_28 : decode cX10_mend 28 = .ok (.goto 4, 3) := by decide +kernel
theorem dX10_mend_31 : decode cX10_mend 31 = .ok (.iconst (-1), 1) := by decide +kernel
theorem dX10_mend_32 : decode cX10_mend 32 = .ok (.ireturn, 1) := by decide +kernel
theorem dX10_wrong_0 : decode cX10_wrong 0 = .ok (.iconst 0, 1) := by decide +kernel
theorem dX10_wrong_1 : decode cX10_wrong 1 = .ok (.istore_n 1, 1) := by decide +kernel
theorem dX10_wrong_2 : decode cX10_wrong 2 = .ok (.iconst 0, 1) := by decide +kernel
theorem dX10_wrong_3 : decode cX10_wrong 3 = .ok (.istore_n 2, 1) := by decide +kernel
theorem dX10_wrong_4 : decode cX10_wrong 4 = .ok (.iload_n 2, 1) := by decide +kernel
theorem dX10_wrong_5 : decode cX10_wrong 5 = .ok (.aload_n 0, 1) := by decide +kernel
theorem dX10_wrong_6 : decode cX10_wrong 6 = .ok (.getfield 16, 3) := by decide +kernel
theorem dX10_wrong_9 : decode cX10_wrong 9 = .ok (.getfield 102, 3) := by decide +kernel
theorem dX10_wrong_12 : decode cX10_wrong 12 = .ok (.if_icmp .ge 48, 3) := by decide +kernel
theorem dX10_wrong_15 : decode cX10_wrong 15 = .ok (.aload_n 0, 1) := by decide +kernel
theorem dX10_wrong_16 : decode cX10_wrong 16 = .ok (.getfield 16, 3) := by decide +kernel
theorem dX10_wrong_19 : decode cX10_wrong 19 = .ok (.getfield 169, 3) := by decide +kernel
theorem dX10_wrong_22 : decode cX10_wrong 22 = .ok (.iload_n 2, 1) := by decide +kernel
theorem dX10_wrong_23 : decode cX10_wrong 23 = .ok (.aaload, 1) := by decide +kernel
theorem dX10_wrong_24 : decode cX10_wrong 24 = .ok (.astore_n 3, 1) := by decide +kernel
theorem dX10_wrong_25 : decode cX10_wrong 25 = .ok (.aload_n 0, 1) := by decide +kernel
theorem dX10_wrong_26 : decode cX10_wrong 26 = .ok (.getfield 35, 3) := by decide +kernel
theorem dX10_wrong_29 : decode cX10_wrong 29 = .ok (.aload_n 0, 1) := by decide +kernel
theorem dX10_wrong_30 : decode cX10_wrong 30 = .ok (.getfield 16, 3) := by decide +kernel
theorem dX10_wrong_33 : decode cX10_wrong 33 = .ok (.aload_n 3, 1) := by decide +kernel
theorem dX10_wrong_34 : decode cX10_wrong 34 = .ok (.aload_n 3, 1) := by decide +kernel
theorem dX10_wrong_35 : decode cX10_wrong 35 = .ok (.getfield 192, 3) := by decide +kernel
theorem dX10_wrong_38 : decode cX10_wrong 38 = .ok (.invokevirtual 365, 3) := by decide +kernel
theorem dX10_wrong_41 : decode cX10_wrong 41 = .ok (.aload_n 3, 1) := by decide +kernel
theorem dX10_wrong_42 : decode cX10_wrong 42 = .ok (.getfield 192, 3) := by decide +kernel
theorem dX10_wrong_45 : decode cX10_wrong 45 = .ok (.if_icmp .eq 9, 3) := by decide +kernel
theorem dX10_wrong_48 : decode cX10_wrong 48 = .ok (.iload_n 1, 1) := by decide +kernel
theorem dX10_wrong_49 : decode cX10_wrong 49 = .ok (.iconst 1, 1) := by decide +kernel
theorem dX10_wrong_50 : decode cX10_wrong 50 = .ok (.iload_n 2, 1) := by decide +kernel
theorem dX10_wrong_51 : decode cX10_wrong 51 = .ok (.ishl, 1) := by decide +kernel
theorem dX10_wrong_52 : decode cX10_wrong 52 = .ok (.ior, 1) := by decide +kernel
theorem dX10_wrong_53 : decode cX10_wrong 53 = .ok (.istore_n 1, 1) := by decide +kernel
theorem dX10_wrong_54 : decode cX10_wrong 54 = .ok (.iinc 2 1, 3) := by decide +kernel
theorem dX10_wrong_57 : decode cX10_wrong 57 = .ok (.goto (-53), 3) := by decide +kernel
theorem dX10_wrong_60 : decode cX10_wrong 60 = .ok (.iload_n 1, 1) := by decide +kernel
theorem dX10_wrong_61 : decode cX10_wrong 61 = .ok (.ireturn, 1) := by decide +kernel
theorem dX10_count_0 : decode cX10_count 0 = .ok (.iload_n 1, 1) := by decide +kernel
theorem dX10_count_1 : decode cX10_count 1 = .ok (.tableswitch 194 0 14 #[75, 83, 91, 99, 107, 115, 123, 131, 139, 144, 149, 154, 164, 174, 184], 75) := by decide +kernel
theorem dX10_count_76 : decode cX10_count 76 = .ok (.aload_n 0, 1) := by decide +kernel
theorem dX10_count_77 : decode cX10_count 77 = .ok (.getfield 16, 3) := by decide +kernel
theorem dX10_count_80 : decode cX10_count 80 = .ok (.getfield 105, 3) := by decide +kernel
theorem dX10_count_83 : decode cX10_count 83 = .ok (.ireturn, 1) := by decide +kernel
theorem dX10_count_84 : decode cX10_count 84 = .ok (.aload_n 0, 1) := by decide +kernel
theorem dX10_count_85 : decode cX10_count 85 = .ok (.getfield 16, 3) := by decide +kernel
theorem dX10_count_88 : decode cX10_count 88 = .ok (.getfield 398, 3) := by decide +kernel
theorem dX10_count_91 : decode cX10_count 91 = .ok (.ireturn, 1) := by decide +kernel
theorem dX10_count_92 : decode cX10_count 92 = .ok (.aload_n 0, 1) := by decide +kernel
theorem dX10_count_93 : decode cX10_count 93 = .ok (.getfield 16, 3) := by decide +kernel
theorem dX10_count_96 : decode cX10_count 96 = .ok (.getfield 222, 3) := by decide +kernel
theorem dX10_count_99 : decode cX10_count 99 = .ok (.ireturn, 1) := by decide +kernel
theorem dX10_count_100 : decode cX10_count 100 = .ok (.aload_n 0, 1) := by decide +kernel
theorem dX10_count_101 : decode cX10_count 101 = .ok (.getfield 16, 3) := by decide +kernel
theorem dX10_count_104 : decode cX10_count 104 = .ok (.getfield 129, 3) := by decide +kernel
theorem dX10_count_107 : decode cX10_count 107 = .ok (.ireturn, 1) := by decide +kernel
theorem dX10_count_108 : decode cX10_count 108 = .ok (.aload_n 0, 1) := by decide +kernel
theorem dX10_count_109 : decode cX10_count 109 = .ok (.getfield 16, 3) := by decide +kernel
theorem dX10_count_112 : decode cX10_count 112 = .ok (.getfield 225, 3) := by decide +kernel
theorem dX10_count_115 : decode cX10_count 115 = .ok (.ireturn, 1) := by decide +kernel
theorem dX10_count_116 : decode cX10_count 116 = .ok (.aload_n 0, 1) := by decide +kernel
theorem dX10_count_117 : decode cX10_count 117 = .ok (.getfield 16, 3) := by decide +kernel
theorem dX10_count_120 : decode cX10_count 120 = .ok (.getfield 102, 3) := by decide +kernel
theorem dX10_count_123 : decode cX10_count 123 = .ok (.ireturn, 1) := by decide +kernel
theorem dX10_count_124 : decode cX10_count 124 = .ok (.aload_n 0, 1) := by decide +kernel
theorem dX10_count_125 : decode cX10_count 125 = .ok (.getfield 42, 3) := by decide +kernel
theorem dX10_count_128 : decode cX10_count 128 = .ok (.getfield 166, 3) := by decide +kernel
theorem dX10_count_131 : decode cX10_count 131 = .ok (.ireturn, 1) := by decide +kernel
theorem dX10_count_132 : decode cX10_count 132 = .ok (.aload_n 0, 1) := by decide +kernel
theorem dX10_count_133 : decode cX10_count 133 = .ok (.getfield 42, 3) := by decide +kernel
theorem dX10_count_136 : decode cX10_count 136 = .ok (.getfield 382, 3) := by decide +kernel
theorem dX10_count_139 : decode cX10_count 139 = .ok (.ireturn, 1) := by decide +kernel
theorem dX10_count_140 : decode cX10_count 140 = .ok (.aload_n 0, 1) := by decide +kernel
theorem dX10_count_141 : decode cX10_count 141 = .ok (.getfield 99, 3) := by decide +kernel
theorem dX10_count_144 : decode cX10_count 144 = .ok (.ireturn, 1) := by decide +kernel
theorem dX10_count_145 : decode cX10_count 145 = .ok (.aload_n 0, 1) := by decide +kernel
theorem dX10_count_146 : decode cX10_count 146 = .ok (.getfield 61, 3) := by decide +kernel
theorem dX10_count_149 : decode cX10_count 149 = .ok (.ireturn, 1) := by decide +kernel
theorem dX10_count_150 : decode cX10_count 150 = .ok (.aload_n 0, 1) := by decide +kernel
theorem dX10_count_151 : decode cX10_count 151 = .ok (.getfield 393, 3) := by decide +kernel
theorem dX10_count_154 : decode cX10_count 154 = .ok (.ireturn, 1) := by decide +kernel
theorem dX10_count_155 : decode cX10_count 155 = .ok (.aload_n 0, 1) := by decide +kernel
theorem dX10_count_156 : decode cX10_count 156 = .ok (.getfield 16, 3) := by decide +kernel
theorem dX10_count_159 : decode cX10_count 159 = .ok (.getfield 302, 3) := by decide +kernel
theorem dX10_count_162 : decode cX10_count 162 = .ok (.iconst 0, 1) := by decide +kernel
theorem dX10_count_163 : decode cX10_count 163 = .ok (.iaload, 1) := by decide +kernel
theorem dX10_count_164 : decode cX10_count 164 = .ok (.ireturn, 1) := by decide +kernel
theorem dX10_count_165 : decode cX10_count 165 = .ok (.aload_n 0, 1) := by decide +kernel
theorem dX10_count_166 : decode cX10_count 166 = .ok (.getfield 16, 3) := by decide +kernel
theorem dX10_count_169 : decode cX10_count 169 = .ok (.getfield 302, 3) := by decide +kernel
theorem dX10_count_172 : decode cX10_count 172 = .ok (.iconst 1, 1) := by decide +kernel
theorem dX10_count_173 : decode cX10_count 173 = .ok (.iaload, 1) := by decide +kernel
theorem dX10_count_174 : decode cX10_count 174 = .ok (.ireturn, 1) := by decide +kernel
theorem dX10_count_175 : decode cX10_count 175 = .ok (.aload_n 0, 1) := by decide +kernel
theorem dX10_count_176 : decode cX10_count 176 = .ok (.getfield 16, 3) := by decide +kernel
theorem dX10_count_179 : decode cX10_count 179 = .ok (.getfield 302, 3) := by decide +kernel
theorem dX10_count_182 : decode cX10_count 182 = .ok (.iconst 2, 1) := by decide +kernel
theorem dX10_count_183 : decode cX10_count 183 = .ok (.iaload, 1) := by decide +kernel
theorem dX10_count_184 : decode cX10_count 184 = .ok (.ireturn, 1) := by decide +kernel
theorem dX10_count_185 : decode cX10_count 185 = .ok (.aload_n 0, 1) := by decide +kernel
theorem dX10_count_186 : decode cX10_count 186 = .ok (.getfield 16, 3) := by decide +kernel
theorem dX10_count_189 : decode cX10_count 189 = .ok (.getfield 302, 3) := by decide +kernel
theorem dX10_count_192 : decode cX10_count 192 = .ok (.iconst 3, 1) := by decide +kernel
theorem dX10_count_193 : decode cX10_count 193 = .ok (.iaload, 1) := by decide +kernel
theorem dX10_count_194 : decode cX10_count 194 = .ok (.ireturn, 1) := by decide +kernel
theorem dX10_count_195 : decode cX10_count 195 = .ok (.iconst (-1), 1) := by decide +kernel
theorem dX10_count_196 : decode cX10_count 196 = .ok (.ireturn, 1) := by decide +kernel
theorem dJ5_init_d00df_0 : decode cJ5_init_d00df 0 = .ok (.aload_n 0, 1) := by decide +kernel
theorem dJ5_init_d00df_1 : decode cJ5_init_d00df 1 = .ok (.invokespecial 3, 3) := by decide +kernel
theorem dJ5_init_d00df_4 : decode cJ5_init_d00df 4 = .ok (.getstatic 18, 3) := by decide +kernel
theorem dJ5_init_d00df_7 : decode cJ5_init_d00df 7 = .ok (.ifCond .eq 18, 3) := by decide +kernel
theorem dJ5_init_d00df_10 : decode cJ5_init_d00df 10 = .ok (.aload_n 0, 1) := by decide +kernel
theorem dJ5_init_d00df_11 : decode cJ5_init_d00df 11 = .ok (.iload_n 1, 1) := by decide +kernel
theorem dJ5_init_d00df_12 : decode cJ5_init_d00df 12 = .ok (.newarray .byte, 2) := by decide +kernel
theorem dJ5_init_d00df_14 : decode cJ5_init_d00df 14 = .ok (.putfield 15, 3) := by decide +kernel
theorem dJ5_init_d00df_17 : decode cJ5_init_d00df 17 = .ok (.aload_n 0, 1) := by decide +kernel
theorem dJ5_init_d00df_18 : decode cJ5_init_d00df 18 = .ok (.iconst 0, 1) := by decide +kernel
theorem dJ5_init_d00df_19 : decode cJ5_init_d00df 19 = .ok (.putfield 22, 3) := by decide +kernel
theorem dJ5_init_d00df_22 : decode cJ5_init_d00df 22 = .ok (.goto 16, 3) := by decide +kernel
theorem dJ5_init_d00df_25 : decode cJ5_init_d00df 25 = .ok (.aload_n 0, 1) := by decide +kernel
theorem dJ5_init_d00df_26 : decode cJ5_init_d00df 26 = .ok (.iload_n 1, 1) := by decide +kernel
theorem dJ5_init_d00df_27 : decode cJ5_init_d00df 27 = .ok (.invokestatic 26, 3) := by decide +kernel
theorem dJ5_init_d00df_30 : decode cJ5_init_d00df 30 = .ok (.putfield 15, 3) := by decide +kernel
theorem dJ5_init_d00df_33 : decode cJ5_init_d00df 33 = .ok (.aload_n 0, 1) := by decide +kernel
theorem dJ5_init_d00df_34 : decode cJ5_init_d00df 34 = .ok (.iconst 1, 1) := by decide +kernel
theorem dJ5_init_d00df_35 : decode cJ5_init_d00df 35 = .ok (.putfield 22, 3) := by decide +kernel
theorem dJ5_init_d00df_38 : decode cJ5_init_d00df 38 = .ok (.return_, 1) := by decide +kernel
theorem dJ5_length_8abf5_0 : decode cJ5_length_8abf5 0 = .ok (.aload_n 0, 1) := by decide +kernel
theorem dJ5_length_8abf5_1 : decode cJ5_length_8abf5 1 = .ok (.getfield 79, 3) := by decide +kernel
theorem dJ5_length_8abf5_4 : decode cJ5_length_8abf5 4 = .ok (.ireturn, 1) := by decide +kernel
theorem dJ5_ensureCapacityInternal_d00df_0 : decode cJ5_ensureCapacityInternal_d00df 0 = .ok (.aload_n 0, 1) := by decide +kernel
theorem dJ5_ensureCapacityInternal_d00df_1 : decode cJ5_ensureCapacityInternal_d00df 1 = .ok (.getfield 15, 3) := by decide +kernel
theorem dJ5_ensureCapacityInternal_d00df_4 : decode cJ5_ensureCapacityInternal_d00df 4 = .ok (.arraylength, 1) := by decide +kernel
theorem dJ5_ensureCapacityInternal_d00df_5 : decode cJ5_ensureCapacityInternal_d00df 5 = .ok (.aload_n 0, 1) := by decide +kernel
theorem dJ5_ensureCapacityInternal_d00df_6 : decode cJ5_ensureCapacityInternal_d00df 6 = .ok (.getfield 22, 3) := by decide +kernel
theorem dJ5_ensureCapacityInternal_d00df_9 : decode cJ5_ensureCapacityInternal_d00df 9 = .ok (.ishr, 1) := by decide +kernel
theorem dJ5_ensureCapacityInternal_d00df_10 : decode cJ5_ensureCapacityInternal_d00df 10 = .ok (.istore_n 2, 1) := by decide +kernel
theorem dJ5_ensureCapacityInternal_d00df_11 : decode cJ5_ensureCapacityInternal_d00df 11 = .ok (.iload_n 1, 1) := by decide +kernel
theorem dJ5_ensureCapacityInternal_d00df_12 : decode cJ5_ensureCapacityInternal_d00df 12 = .ok (.iload_n 2, 1) := by decide +kernel
theorem dJ5_ensureCapacityInternal_d00df_13 : decode cJ5_ensureCapacityInternal_d00df 13 = .ok (.isub, 1) := by decide +kernel
theorem dJ5_ensureCapacityInternal_d00df_14 : decode cJ5_ensureCapacityInternal_d00df 14 = .ok (.ifCond .le 24, 3) := by decide +kernel
theorem dJ5_ensureCapacityInternal_d00df_17 : decode cJ5_ensureCapacityInternal_d00df 17 = .ok (.aload_n 0, 1) := by decide +kernel
theorem dJ5_ensureCapacityInternal_d00df_18 : decode cJ5_ensureCapacityInternal_d00df 18 = .ok (.aload_n 0, 1) := by decide +kernel
theorem dJ5_ensureCapacityInternal_d00df_19 : decode cJ5_ensureCapacityInternal_d00df 19 = .ok (.getfield 15, 3) := by decide +kernel
theorem dJ5_ensureCapacityInternal_d00df_22 : decode cJ5_ensureCapacityInternal_d00df 22 = .ok (.aload_n 0, 1) := by decide +kernel
theorem dJ5_ensureCapacityInternal_d00df_23 : decode cJ5_ensureCapacityInternal_d00df 23 = .ok (.iload_n 1, 1) := by decide +kernel
theorem dJ5_ensureCapacityInternal_d00df_24 : decode cJ5_ensureCapacityInternal_d00df 24 = .ok (.invokevirtual 104, 3) := by decide +kernel
theorem dJ5_ensureCapacityInternal_d00df_27 : decode cJ5_ensureCapacityInternal_d00df 27 = .ok (.aload_n 0, 1) := by decide +kernel
theorem dJ5_ensureCapacityInternal_d00df_28 : decode cJ5_ensureCapacityInternal_d00df 28 = .ok (.getfield 22, 3) := by decide +kernel
theorem dJ5_ensureCapacityInternal_d00df_31 : decode cJ5_ensureCapacityInternal_d00df 31 = .ok (.ishl, 1) := by decide +kernel
theorem dJ5_ensureCapacityInternal_d00df_32 : decode cJ5_ensureCapacityInternal_d00df 32 = .ok (.invokestatic 108, 3) := by decide +kernel
theorem dJ5_ensureCapacityInternal_d00df_35 : decode cJ5_ensureCapacityInternal_d00df 35 = .ok (.putfield 15, 3) := by decide +kernel
theorem dJ5_ensureCapacityInternal_d00df_38 : decode cJ5_ensureCapacityInternal_d00df 38 = .ok (.return_, 1) := by decide +kernel
theorem dJ5_newCapacity_0f7a4_0 : decode cJ5_newCapacity_0f7a4 0 = .ok (.aload_n 0, 1) := by decide +kernel
theorem dJ5_newCapacity_0f7a4_1 : decode cJ5_newCapacity_0f7a4 1 = .ok (.getfield 15, 3) := by decide +kernel
theorem dJ5_newCapacity_0f7a4_4 : decode cJ5_newCapacity_0f7a4 4 = .ok (.arraylength, 1) := by decide +kernel
theorem dJ5_newCapacity_0f7a4_5 : decode cJ5_newCapacity_0f7a4 5 = .ok (.istore_n 2, 1) := by decide +kernel
theorem dJ5_newCapacity_0f7a4_6 : decode cJ5_newCapacity_0f7a4 6 = .ok (.iload_n 1, 1) := by decide +kernel
theorem dJ5_newCapacity_0f7a4_7 : decode cJ5_newCapacity_0f7a4 7 = .ok (.aload_n 0, 1) := by decide +kernel
theorem dJ5_newCapacity_0f7a4_8 : decode cJ5_newCapacity_0f7a4 8 = .ok (.getfield 22, 3) := by decide +kernel
theorem dJ5_newCapacity_0f7a4_11 : decode cJ5_newCapacity_0f7a4 11 = .ok (.ishl, 1) := by decide +kernel
theorem dJ5_newCapacity_0f7a4_12 : decode cJ5_newCapacity_0f7a4 12 = .ok (.istore_n 3, 1) := by decide +kernel
theorem dJ5_newCapacity_0f7a4_13 : decode cJ5_newCapacity_0f7a4 13 = .ok (.iload_n 3, 1) := by decide +kernel
theorem dJ5_newCapacity_0f7a4_14 : decode cJ5_newCapacity_0f7a4 14 = .ok (.iload_n 2, 1) := by decide +kernel
theorem dJ5_newCapacity_0f7a4_15 : decode cJ5_newCapacity_0f7a4 15 = .ok (.isub, 1) := by decide +kernel
theorem dJ5_newCapacity_0f7a4_16 : decode cJ5_newCapacity_0f7a4 16 = .ok (.istore 4, 2) := by decide +kernel
theorem dJ5_newCapacity_0f7a4_18 : decode cJ5_newCapacity_0f7a4 18 = .ok (.iload_n 2, 1) := by decide +kernel
theorem dJ5_newCapacity_0f7a4_19 : decode cJ5_newCapacity_0f7a4 19 = .ok (.iload 4, 2) := by decide +kernel
theorem dJ5_newCapacity_0f7a4_21 : decode cJ5_newCapacity_0f7a4 21 = .ok (.iload_n 2, 1) := by decide +kernel
theorem dJ5_newCapacity_0f7a4_22 : decode cJ5_newCapacity_0f7a4 22 = .ok (.iconst 2, 1) := by decide +kernel
theorem dJ5_newCapacity_0f7a4_23 : decode cJ5_newCapacity_0f7a4 23 = .ok (.aload_n 0, 1) := by decide +kernel
theorem dJ5_newCapacity_0f7a4_24 : decode cJ5_newCapacity_0f7a4 24 = .ok (.getfield 22, 3) := by decide +kernel
theorem dJ5_newCapacity_0f7a4_27 : decode cJ5_newCapacity_0f7a4 27 = .ok (.ishl, 1) := by decide +kernel
theorem dJ5_newCapacity_0f7a4_28 : decode cJ5_newCapacity_0f7a4 28 = .ok (.iadd, 1) := by decide +kernel
theorem dJ5_newCapacity_0f7a4_29 : decode cJ5_newCapacity_0f7a4 29 = .ok (.invokestatic 114, 3) := by decide +kernel
theorem dJ5_newCapacity_0f7a4_32 : decode cJ5_newCapacity_0f7a4 32 = .ok (.istore 5, 2) := by decide +kernel
theorem dJ5_newCapacity_0f7a4_34 : decode cJ5_newCapacity_0f7a4 34 = .ok (.iload 5, 2) := by decide +kernel
theorem dJ5_newCapacity_0f7a4_36 : decode cJ5_newCapacity_0f7a4 36 = .ok (.ldc 39, 2) := by decide +kernel
theorem dJ5_newCapacity_0f7a4_38 : decode cJ5_newCapacity_0f7a4 38 = .ok (.if_icmp .ne 13, 3) := by decide +kernel
theorem dJ5_newCapacity_0f7a4_41 : decode cJ5_newCapacity_0f7a4 41 = .ok (.new 120, 3) := by decide +kernel
theorem dJ5_newCapacity_0f7a4_44 : decode cJ5_newCapacity_0f7a4 44 = .ok (.dup, 1) := by decide +kernel
theorem dJ5_newCapacity_0f7a4_45 : decode cJ5_newCapacity_0f7a4 45 = .ok (.ldc 122, 2) := by decide +kernel
theorem dJ5_newCapacity_0f7a4_47 : decode cJ5_newCapacity_0f7a4 47 = .ok (.invokespecial 124, 3) := by decide +kernel
theorem dJ5_newCapacity_0f7a4_50 : decode cJ5_newCapacity_0f7a4 50 = .ok (.athrow, 1) := by decide +kernel
theorem dJ5_newCapacity_0f7a4_51 : decode cJ5_newCapacity_0f7a4 51 = .ok (.iload 5, 2) := by decide +kernel
theorem dJ5_newCapacity_0f7a4_53 : decode cJ5_newCapacity_0f7a4 53 = .ok (.aload_n 0, 1) := by decide +kernel
theorem dJ5_newCapacity_0f7a4_54 : decode cJ5_newCapacity_0f7a4 54 = .ok (.getfield 22, 3) := by decide +kernel
theorem dJ5_newCapacity_0f7a4_57 : decode cJ5_newCapacity_0f7a4 57 = .ok (.ishr, 1) := by decide +kernel
theorem dJ5_newCapacity_0f7a4_58 : decode cJ5_newCapacity_0f7a4 58 = .ok (.ireturn, 1) := by decide +kernel
theorem dJ5_inflate_da8c8_0 : decode cJ5_inflate_da8c8 0 = .ok (.aload_n 0, 1) := by decide +kernel
theorem dJ5_inflate_da8c8_1 : decode cJ5_inflate_da8c8 1 = .ok (.invokevirtual 83, 3) := by decide +kernel
theorem dJ5_inflate_da8c8_4 : decode cJ5_inflate_da8c8 4 = .ok (.ifCond .ne 4, 3) := by decide +kernel
theorem dJ5_inflate_da8c8_7 : decode cJ5_inflate_da8c8 7 = .ok (.return_, 1) := by decide +kernel
theorem dJ5_inflate_da8c8_8 : decode cJ5_inflate_da8c8 8 = .ok (.aload_n 0, 1) := by decide +kernel
theorem dJ5_inflate_da8c8_9 : decode cJ5_inflate_da8c8 9 = .ok (.getfield 15, 3) := by decide +kernel
theorem dJ5_inflate_da8c8_12 : decode cJ5_inflate_da8c8 12 = .ok (.arraylength, 1) := by decide +kernel
theorem dJ5_inflate_da8c8_13 : decode cJ5_inflate_da8c8 13 = .ok (.invokestatic 26, 3) := by decide +kernel
theorem dJ5_inflate_da8c8_16 : decode cJ5_inflate_da8c8 16 = .ok (.astore_n 1, 1) := by decide +kernel
theorem dJ5_inflate_da8c8_17 : decode cJ5_inflate_da8c8 17 = .ok (.aload_n 0, 1) := by decide +kernel
theorem dJ5_inflate_da8c8_18 : decode cJ5_inflate_da8c8 18 = .ok (.getfield 15, 3) := by decide +kernel
theorem dJ5_inflate_da8c8_21 : decode cJ5_inflate_da8c8 21 = .ok (.iconst 0, 1) := by decide +kernel
theorem dJ5_inflate_da8c8_22 : decode cJ5_inflate_da8c8 22 = .ok (.aload_n 1, 1) := by decide +kernel
theorem dJ5_inflate_da8c8_23 : decode cJ5_inflate_da8c8 23 = .ok (.iconst 0, 1) := by decide +kernel
theorem dJ5_inflate_da8c8_24 : decode cJ5_inflate_da8c8 24 = .ok (.aload_n 0, 1) := by decide +kernel
theorem dJ5_inflate_da8c8_25 : decode cJ5_inflate_da8c8 25 = .ok (.getfield 79, 3) := by decide +kernel
theorem dJ5_inflate_da8c8_28 : decode cJ5_inflate_da8c8 28 = .ok (.invokestatic 125, 3) := by decide +kernel
theorem dJ5_inflate_da8c8_31 : decode cJ5_inflate_da8c8 31 = .ok (.aload_n 0, 1) := by decide +kernel
theorem dJ5_inflate_da8c8_32 : decode cJ5_inflate_da8c8 32 = .ok (.aload_n 1, 1) := by decide +kernel
theorem dJ5_inflate_da8c8_33 : decode cJ5_inflate_da8c8 33 = .ok (.putfield 15, 3) := by decide +kernel
theorem dJ5_inflate_da8c8_36 : decode cJ5_inflate_da8c8 36 = .ok (.aload_n 0, 1) := by decide +kernel
theorem dJ5_inflate_da8c8_37 : decode cJ5_inflate_da8c8 37 = .ok (.iconst 1, 1) := by decide +kernel
theorem dJ5_inflate_da8c8_38 : decode cJ5_inflate_da8c8 38 = .ok (.putfield 22, 3) := by decide +kernel
theorem dJ5_inflate_da8c8_41 : decode cJ5_inflate_da8c8 41 = .ok (.return_, 1) := by decide +kernel
theorem dJ5_append_cf1ce_0 : decode cJ5_append_cf1ce 0 = .ok (.aload_n 1, 1) := by decide +kernel
theorem dJ5_append_cf1ce_1 : decode cJ5_append_cf1ce 1 = .ok (.ifnonnull 8, 3) := by decide +kernel
theorem dJ5_append_cf1ce_4 : decode cJ5_append_cf1ce 4 = .ok (.aload_n 0, 1) := by decide +kernel
theorem dJ5_append_cf1ce_5 : decode cJ5_append_cf1ce 5 = .ok (.invokevirtual 204, 3) := by decide +kernel
theorem dJ5_append_cf1ce_8 : decode cJ5_append_cf1ce 8 = .ok (.areturn, 1) := by decide +kernel
theorem dJ5_append_cf1ce_9 : decode cJ5_append_cf1ce 9 = .ok (.aload_n 1, 1) := by decide +kernel
theorem dJ5_append_cf1ce_10 : decode cJ5_append_cf1ce 10 = .ok (.invokevirtual 32, 3) := by decide +kernel
theorem dJ5_append_cf1ce_13 : decode cJ5_append_cf1ce 13 = .ok (.istore_n 2, 1) := by decide +kernel
theorem dJ5_append_cf1ce_14 : decode cJ5_append_cf1ce 14 = .ok (.aload_n 0, 1) := by decide +kernel
theorem dJ5_append_cf1ce_15 : decode cJ5_append_cf1ce 15 = .ok (.aload_n 0, 1) := by decide +kernel
theorem dJ5_append_cf1ce_16 : decode cJ5_append_cf1ce 16 = .ok (.getfield 79, 3) := by decide +kernel
theorem dJ5_append_cf1ce_19 : decode cJ5_append_cf1ce 19 = .ok (.iload_n 2, 1) := by decide +kernel
theorem dJ5_append_cf1ce_20 : decode cJ5_append_cf1ce 20 = .ok (.iadd, 1) := by decide +kernel
theorem dJ5_append_cf1ce_21 : decode cJ5_append_cf1ce 21 = .ok (.invokevirtual 100, 3) := by decide +kernel
theorem dJ5_append_cf1ce_24 : decode cJ5_append_cf1ce 24 = .ok (.aload_n 0, 1) := by decide +kernel
theorem dJ5_append_cf1ce_25 : decode cJ5_append_cf1ce 25 = .ok (.aload_n 0, 1) := by decide +kernel
theorem dJ5_append_cf1ce_26 : decode cJ5_append_cf1ce 26 = .ok (.getfield 79, 3) := by decide +kernel
theorem dJ5_append_cf1ce_29 : decode cJ5_append_cf1ce 29 = .ok (.aload_n 1, 1) := by decide +kernel
theorem dJ5_append_cf1ce_30 : decode cJ5_append_cf1ce 30 = .ok (.invokevirtual 208, 3) := by decide +kernel
theorem dJ5_append_cf1ce_33 : decode cJ5_append_cf1ce 33 = .ok (.aload_n 0, 1) := by decide +kernel
theorem dJ5_append_cf1ce_34 : decode cJ5_append_cf1ce 34 = .ok (.dup, 1) := by decide +kernel
theorem dJ5_append_cf1ce_35 : decode cJ5_append_cf1ce 35 = .ok (.getfield 79, 3) := by decide +kernel
theorem dJ5_append_cf1ce_38 : decode cJ5_append_cf1ce 38 = .ok (.iload_n 2, 1) := by decide +kernel
theorem dJ5_append_cf1ce_39 : decode cJ5_append_cf1ce 39 = .ok (.iadd, 1) := by decide +kernel
theorem dJ5_append_cf1ce_40 : decode cJ5_append_cf1ce 40 = .ok (.putfield 79, 3) := by decide +kernel
theorem dJ5_append_cf1ce_43 : decode cJ5_append_cf1ce 43 = .ok (.aload_n 0, 1) := by decide +kernel
theorem dJ5_append_cf1ce_44 : decode cJ5_append_cf1ce 44 = .ok (.areturn, 1) := by decide +kernel
theorem dJ5_appendNull_278bc_0 : decode cJ5_appendNull_278bc 0 = .ok (.aload_n 0, 1) := by decide +kernel
theorem dJ5_appendNull_278bc_1 : decode cJ5_appendNull_278bc 1 = .ok (.aload_n 0, 1) := by decide +kernel
theorem dJ5_appendNull_278bc_2 : decode cJ5_appendNull_278bc 2 = .ok (.getfield 79, 3) := by decide +kernel
theorem dJ5_appendNull_278bc_5 : decode cJ5_appendNull_278bc 5 = .ok (.iconst 4, 1) := by decide +kernel
theorem dJ5_appendNull_278bc_6 : decode cJ5_appendNull_278bc 6 = .ok (.iadd, 1) := by decide +kernel
theorem dJ5_appendNull_278bc_7 : decode cJ5_appendNull_278bc 7 = .ok (.invokevirtual 100, 3) := by decide +kernel
theorem dJ5_appendNull_278bc_10 : decode cJ5_appendNull_278bc 10 = .ok (.aload_n 0, 1) := by decide +kernel
theorem dJ5_appendNull_278bc_11 : decode cJ5_appendNull_278bc 11 = .ok (.getfield 79, 3) := by decide +kernel
theorem dJ5_appendNull_278bc_14 : decode cJ5_appendNull_278bc 14 = .ok (.istore_n 1, 1) := by decide +kernel
theorem dJ5_appendNull_278bc_15 : decode cJ5_appendNull_278bc 15 = .ok (.aload_n 0, 1) := by decide +kernel
theorem dJ5_appendNull_278bc_16 : decode cJ5_appendNull_278bc 16 = .ok (.getfield 15, 3) := by decide +kernel
theorem dJ5_appendNull_278bc_19 : decode cJ5_appendNull_278bc 19 = .ok (.astore_n 2, 1) := by decide +kernel
theorem dJ5_appendNull_278bc_20 : decode cJ5_appendNull_278bc 20 = .ok (.aload_n 0, 1) := by decide +kernel
theorem dJ5_appendNull_278bc_21 : decode cJ5_appendNull_278bc 21 = .ok (.invokevirtual 83, 3) := by decide +kernel
theorem dJ5_appendNull_278bc_24 : decode cJ5_appendNull_278bc 24 = .ok (.ifCond .eq 38, 3) := by decide +kernel
theorem dJ5_appendNull_278bc_27 : decode cJ5_appendNull_278bc 27 = .ok (.aload_n 2, 1) := by decide +kernel
theorem dJ5_appendNull_278bc_28 : decode cJ5_appendNull_278bc 28 = .ok (.iload_n 1, 1) := by decide +kernel
theorem dJ5_appendNull_278bc_29 : decode cJ5_appendNull_278bc 29 = .ok (.iinc 1 1, 3) := by decide +kernel
theorem dJ5_appendNull_278bc_32 : decode cJ5_appendNull_278bc 32 = .ok (.bipush 110, 2) := by decide +kernel
theorem dJ5_appendNull_278bc_34 : decode cJ5_appendNull_278bc 34 = .ok (.bastore, 1) := by decide +kernel
theorem dJ5_appendNull_278bc_35 : decode cJ5_appendNull_278bc 35 = .ok (.aload_n 2, 1) := by decide +kernel
theorem dJ5_appendNull_278bc_36 : decode cJ5_appendNull_278bc 36 = .ok (.iload_n 1, 1) := by decide +kernel
theorem dJ5_appendNull_278bc_37 : decode cJ5_appendNull_278bc 37 = .ok (.iinc 1 1, 3) := by decide +kernel
theorem dJ5_appendNull_278bc_40 : decode cJ5_appendNull_278bc 40 = .ok (.bipush 117, 2) := by decide +kernel
theorem dJ5_appendNull_278bc_42 : decode cJ5_appendNull_278bc 42 = .ok (.bastore, 1) := by decide +kernel
theorem dJ5_appendNull_278bc_43 : decode cJ5_appendNull_278bc 43 = .ok (.aload_n 2, 1) := by decide +kernel
theorem dJ5_appendNull_278bc_44 : decode cJ5_appendNull_278bc 44 = .ok (.iload_n 1, 1) := by decide +kernel
theorem dJ5_appendNull_278bc_45 : decode cJ5_appendNull_278bc 45 = .ok (.iinc 1 1, 3) := by decide +kernel
theorem dJ5_appendNull_278bc_48 : decode cJ5_appendNull_278bc 48 = .ok (.bipush 108, 2) := by decide +kernel
theorem dJ5_appendNull_278bc_50 : decode cJ5_appendNull_278bc 50 = .ok (.bastore, 1) := by decide +kernel
theorem dJ5_appendNull_278bc_51 : decode cJ5_appendNull_278bc 51 = .ok (.aload_n 2, 1) := by decide +kernel
theorem dJ5_appendNull_278bc_52 : decode cJ5_appendNull_278bc 52 = .ok (.iload_n 1, 1) := by decide +kernel
theorem dJ5_appendNull_278bc_53 : decode cJ5_appendNull_278bc 53 = .ok (.iinc 1 1, 3) := by decide +kernel
theorem dJ5_appendNull_278bc_56 : decode cJ5_appendNull_278bc 56 = .ok (.bipush 108, 2) := by decide +kernel
theorem dJ5_appendNull_278bc_58 : decode cJ5_appendNull_278bc 58 = .ok (.bastore, 1) := by decide +kernel
theorem dJ5_appendNull_278bc_59 : decode cJ5_appendNull_278bc 59 = .ok (.goto 17, 3) := by decide +kernel
theorem dJ5_appendNull_278bc_62 : decode cJ5_appendNull_278bc 62 = .ok (.aload_n 2, 1) := by decide +kernel
theorem dJ5_appendNull_278bc_63 : decode cJ5_appendNull_278bc 63 = .ok (.iload_n 1, 1) := by decide +kernel
theorem dJ5_appendNull_278bc_64 : decode cJ5_appendNull_278bc 64 = .ok (.bipush 110, 2) := by decide +kernel
theorem dJ5_appendNull_278bc_66 : decode cJ5_appendNull_278bc 66 = .ok (.bipush 117, 2) := by decide +kernel
theorem dJ5_appendNull_278bc_68 : decode cJ5_appendNull_278bc 68 = .ok (.bipush 108, 2) := by decide +kernel
theorem dJ5_appendNull_278bc_70 : decode cJ5_appendNull_278bc 70 = .ok (.bipush 108, 2) := by decide +kernel
theorem dJ5_appendNull_278bc_72 : decode cJ5_appendNull_278bc 72 = .ok (.invokestatic 226, 3) := by decide +kernel
theorem dJ5_appendNull_278bc_75 : decode cJ5_appendNull_278bc 75 = .ok (.istore_n 1, 1) := by decide +kernel
theorem dJ5_appendNull_278bc_76 : decode cJ5_appendNull_278bc 76 = .ok (.aload_n 0, 1) := by decide +kernel
theorem dJ5_appendNull_278bc_77 : decode cJ5_appendNull_278bc 77 = .ok (.iload_n 1, 1) := by decide +kernel
theorem dJ5_appendNull_278bc_78 : decode cJ5_appendNull_278bc 78 = .ok (.putfield 79, 3) := by decide +kernel
theorem dJ5_appendNull_278bc_81 : decode cJ5_appendNull_278bc 81 = .ok (.aload_n 0, 1) := by decide +kernel
theorem dJ5_appendNull_278bc_82 : decode cJ5_appendNull_278bc 82 = .ok (.areturn, 1) := by decide +kernel
theorem dJ5_append_3fe6f_0 : decode cJ5_append_3fe6f 0 = .ok (.aload_n 0, 1) := by decide +kernel
theorem dJ5_append_3fe6f_1 : decode cJ5_append_3fe6f 1 = .ok (.aload_n 0, 1) := by decide +kernel
theorem dJ5_append_3fe6f_2 : decode cJ5_append_3fe6f 2 = .ok (.getfield 79, 3) := by decide +kernel
theorem dJ5_append_3fe6f_5 : decode cJ5_append_3fe6f 5 = .ok (.iconst 1, 1) := by decide +kernel
theorem dJ5_append_3fe6f_6 : decode cJ5_append_3fe6f 6 = .ok (.iadd, 1) := by decide +kernel
theorem dJ5_append_3fe6f_7 : decode cJ5_append_3fe6f 7 = .ok (.invokevirtual 100, 3) := by decide +kernel
theorem dJ5_append_3fe6f_10 : decode cJ5_append_3fe6f 10 = .ok (.aload_n 0, 1) := by decide +kernel
theorem dJ5_append_3fe6f_11 : decode cJ5_append_3fe6f 11 = .ok (.invokevirtual 83, 3) := by decide +kernel
theorem dJ5_append_3fe6f_14 : decode cJ5_append_3fe6f 14 = .ok (.ifCond .eq 31, 3) := by decide +kernel
theorem dJ5_append_3fe6f_17 : decode cJ5_append_3fe6f 17 = .ok (.iload_n 1, 1) := by decide +kernel
theorem dJ5_append_3fe6f_18 : decode cJ5_append_3fe6f 18 = .ok (.invokestatic 191, 3) := by decide +kernel
theorem dJ5_append_3fe6f_21 : decode cJ5_append_3fe6f 21 = .ok (.ifCond .eq 24, 3) := by decide +kernel
theorem dJ5_append_3fe6f_24 : decode cJ5_append_3fe6f 24 = .ok (.aload_n 0, 1) := by decide +kernel
theorem dJ5_append_3fe6f_25 : decode cJ5_append_3fe6f 25 = .ok (.getfield 15, 3) := by decide +kernel
theorem dJ5_append_3fe6f_28 : decode cJ5_append_3fe6f 28 = .ok (.aload_n 0, 1) := by decide +kernel
theorem dJ5_append_3fe6f_29 : decode cJ5_append_3fe6f 29 = .ok (.dup, 1) := by decide +kernel
theorem dJ5_append_3fe6f_30 : decode cJ5_append_3fe6f 30 = .ok (.getfield 79, 3) := by decide +kernel
theorem dJ5_append_3fe6f_33 : decode cJ5_append_3fe6f 33 = .ok (.dup_x1, 1) := by decide +kernel
theorem dJ5_append_3fe6f_34 : decode cJ5_append_3fe6f 34 = .ok (.iconst 1, 1) := by decide +kernel
theorem dJ5_append_3fe6f_35 : decode cJ5_append_3fe6f 35 = .ok (.iadd, 1) := by decide +kernel
theorem dJ5_append_3fe6f_36 : decode cJ5_append_3fe6f 36 = .ok (.putfield 79, 3) := by decide +kernel
theorem dJ5_append_3fe6f_39 : decode cJ5_append_3fe6f 39 = .ok (.iload_n 1, 1) := by decide +kernel
theorem dJ5_append_3fe6f_40 : decode cJ5_append_3fe6f 40 = .ok (.i2b, 1) := by decide +kernel
theorem dJ5_append_3fe6f_41 : decode cJ5_append_3fe6f 41 = .ok (.bastore, 1) := by decide +kernel
theorem dJ5_append_3fe6f_42 : decode cJ5_append_3fe6f 42 = .ok (.goto 33, 3) := by decide +kernel
theorem dJ5_append_3fe6f_45 : decode cJ5_append_3fe6f 45 = .ok (.aload_n 0, 1) := by decide +kernel
theorem dJ5_append_3fe6f_46 : decode cJ5_append_3fe6f 46 = .ok (.invokevirtual 83, 3) := by decide +kernel
theorem dJ5_append_3fe6f_49 : decode cJ5_append_3fe6f 49 = .ok (.ifCond .eq 7, 3) := by decide +kernel
theorem dJ5_append_3fe6f_52 : decode cJ5_append_3fe6f 52 = .ok (.aload_n 0, 1) := by decide +kernel
theorem dJ5_append_3fe6f_53 : decode cJ5_append_3fe6f 53 = .ok (.invokevirtual 195, 3) := by decide +kernel
theorem dJ5_append_3fe6f_56 : decode cJ5_append_3fe6f 56 = .ok (.aload_n 0, 1) := by decide +kernel
theorem dJ5_append_3fe6f_57 : decode cJ5_append_3fe6f 57 = .ok (.getfield 15, 3) := by decide +kernel
theorem dJ5_append_3fe6f_60 : decode cJ5_append_3fe6f 60 = .ok (.aload_n 0, 1) := by decide +kernel
theorem dJ5_append_3fe6f_61 : decode cJ5_append_3fe6f 61 = .ok (.dup, 1) := by decide +kernel
theorem dJ5_append_3fe6f_62 : decode cJ5_append_3fe6f 62 = .ok (.getfield 79, 3) := by decide +kernel
theorem dJ5_append_3fe6f_65 : decode cJ5_append_3fe6f 65 = .ok (.dup_x1, 1) := by decide +kernel
theorem dJ5_append_3fe6f_66 : decode cJ5_append_3fe6f 66 = .ok (.iconst 1, 1) := by decide +kernel
theorem dJ5_append_3fe6f_67 : decode cJ5_append_3fe6f 67 = .ok (.iadd, 1) := by decide +kernel
theorem dJ5_append_3fe6f_68 : decode cJ5_append_3fe6f 68 = .ok (.putfield 79, 3) := by decide +kernel
theorem dJ5_append_3fe6f_71 : decode cJ5_append_3fe6f 71 = .ok (.iload_n 1, 1) := by decide +kernel
theorem dJ5_append_3fe6f_72 : decode cJ5_append_3fe6f 72 = .ok (.invokestatic 197, 3) := by decide +kernel
theorem dJ5_append_3fe6f_75 : decode cJ5_append_3fe6f 75 = .ok (.aload_n 0, 1) := by decide +kernel
theorem dJ5_append_3fe6f_76 : decode cJ5_append_3fe6f 76 = .ok (.areturn, 1) := by decide +kernel
theorem dJ5_append_c97b9_0 : decode cJ5_append_c97b9 0 = .ok (.aload_n 0, 1) := by decide +kernel
theorem dJ5_append_c97b9_1 : decode cJ5_append_c97b9 1 = .ok (.getfield 79, 3) := by decide +kernel
theorem dJ5_append_c97b9_4 : decode cJ5_append_c97b9 4 = .ok (.istore_n 2, 1) := by decide +kernel
theorem dJ5_append_c97b9_5 : decode cJ5_append_c97b9 5 = .ok (.iload_n 2, 1) := by decide +kernel
theorem dJ5_append_c97b9_6 : decode cJ5_append_c97b9 6 = .ok (.iload_n 1, 1) := by decide +kernel
theorem dJ5_append_c97b9_7 : decode cJ5_append_c97b9 7 = .ok (.invokestatic 245, 3) := by decide +kernel
theorem dJ5_append_c97b9_10 : decode cJ5_append_c97b9 10 = .ok (.iadd, 1) := by decide +kernel
theorem dJ5_append_c97b9_11 : decode cJ5_append_c97b9 11 = .ok (.istore_n 3, 1) := by decide +kernel
theorem dJ5_append_c97b9_12 : decode cJ5_append_c97b9 12 = .ok (.aload_n 0, 1) := by decide +kernel
theorem dJ5_append_c97b9_13 : decode cJ5_append_c97b9 13 = .ok (.iload_n 3, 1) := by decide +kernel
theorem dJ5_append_c97b9_14 : decode cJ5_append_c97b9 14 = .ok (.invokevirtual 100, 3) := by decide +kernel
theorem dJ5_append_c97b9_17 : decode cJ5_append_c97b9 17 = .ok (.aload_n 0, 1) := by decide +kernel
theorem dJ5_append_c97b9_18 : decode cJ5_append_c97b9 18 = .ok (.invokevirtual 83, 3) := by decide +kernel
theorem dJ5_append_c97b9_21 : decode cJ5_append_c97b9 21 = .ok (.ifCond .eq 16, 3) := by decide +kernel
theorem dJ5_append_c97b9_24 : decode cJ5_append_c97b9 24 = .ok (.iload_n 1, 1) := by decide +kernel
theorem dJ5_append_c97b9_25 : decode cJ5_append_c97b9 25 = .ok (.iload_n 3, 1) := by decide +kernel
theorem dJ5_append_c97b9_26 : decode cJ5_append_c97b9 26 = .ok (.aload_n 0, 1) := by decide +kernel
theorem dJ5_append_c97b9_27 : decode cJ5_append_c97b9 27 = .ok (.getfield 15, 3) := by decide +kernel
theorem dJ5_append_c97b9_30 : decode cJ5_append_c97b9 30 = .ok (.invokestatic 248, 3) := by decide +kernel
theorem dJ5_append_c97b9_33 : decode cJ5_append_c97b9 33 = .ok (.pop, 1) := by decide +kernel
theorem dJ5_append_c97b9_34 : decode cJ5_append_c97b9 34 = .ok (.goto 14, 3) := by decide +kernel
theorem dJ5_append_c97b9_37 : decode cJ5_append_c97b9 37 = .ok (.iload_n 1, 1) := by decide +kernel
theorem dJ5_append_c97b9_38 : decode cJ5_append_c97b9 38 = .ok (.iload_n 2, 1) := by decide +kernel
theorem dJ5_append_c97b9_39 : decode cJ5_append_c97b9 39 = .ok (.iload_n 3, 1) := by decide +kernel
theorem dJ5_append_c97b9_40 : decode cJ5_append_c97b9 40 = .ok (.aload_n 0, 1) := by decide +kernel
theorem dJ5_append_c97b9_41 : decode cJ5_append_c97b9 41 = .ok (.getfield 15, 3) := by decide +kernel
theorem dJ5_append_c97b9_44 : decode cJ5_append_c97b9 44 = .ok (.invokestatic 251, 3) := by decide +kernel
theorem dJ5_append_c97b9_47 : decode cJ5_append_c97b9 47 = .ok (.pop, 1) := by decide +kernel
theorem dJ5_append_c97b9_48 : decode cJ5_append_c97b9 48 = .ok (.aload_n 0, 1) := by decide +kernel
theorem dJ5_append_c97b9_49 : decode cJ5_append_c97b9 49 = .ok (.iload_n 3, 1) := by decide +kernel
theorem dJ5_append_c97b9_50 : decode cJ5_append_c97b9 50 = .ok (.putfield 79, 3) := by decide +kernel
theorem dJ5_append_c97b9_53 : decode cJ5_append_c97b9 53 = .ok (.aload_n 0, 1) := by decide +kernel
theorem dJ5_append_c97b9_54 : decode cJ5_append_c97b9 54 = .ok (.areturn, 1) := by decide +kernel
theorem dJ5_getValue_6d5f1_0 : decode cJ5_getValue_6d5f1 0 = .ok (.aload_n 0, 1) := by decide +kernel
theorem dJ5_getValue_6d5f1_1 : decode cJ5_getValue_6d5f1 1 = .ok (.getfield 15, 3) := by decide +kernel
theorem dJ5_getValue_6d5f1_4 : decode cJ5_getValue_6d5f1 4 = .ok (.areturn, 1) := by decide +kernel
theorem dJ5_isLatin1_aae02_0 : decode cJ5_isLatin1_aae02 0 = .ok (.getstatic 18, 3) := by decide +kernel
theorem dJ5_isLatin1_aae02_3 : decode cJ5_isLatin1_aae02 3 = .ok (.ifCond .eq 14, 3) := by decide +kernel
theorem dJ5_isLatin1_aae02_6 : decode cJ5_isLatin1_aae02 6 = .ok (.aload_n 0, 1) := by decide +kernel
theorem dJ5_isLatin1_aae02_7 : decode cJ5_isLatin1_aae02 7 = .ok (.getfield 22, 3) := by decide +kernel
theorem dJ5_isLatin1_aae02_10 : decode cJ5_isLatin1_aae02 10 = .ok (.ifCond .ne 7, 3) := by decide +kernel
theorem dJ5_isLatin1_aae02_13 : decode cJ5_isLatin1_aae02 13 = .ok (.iconst 1, 1) := by decide +kernel
theorem dJ5_isLatin1_aae02_14 : decode cJ5_isLatin1_aae02 14 = .ok (.goto 4, 3) := by decide +kernel
theorem dJ5_isLatin1_aae02_17 : decode cJ5_isLatin1_aae02 17 = .ok (.iconst 0, 1) := by decide +kernel
theorem dJ5_isLatin1_aae02_18 : decode cJ5_isLatin1_aae02 18 = .ok (.ireturn, 1) := by decide +kernel
theorem dJ5_inflateIfNeededFor_a7421_0 : decode cJ5_inflateIfNeededFor_a7421 0 = .ok (.getstatic 18, 3) := by decide +kernel
theorem dJ5_inflateIfNeededFor_a7421_3 : decode cJ5_inflateIfNeededFor_a7421 3 = .ok (.ifCond .eq 18, 3) := by decide +kernel
theorem dJ5_inflateIfNeededFor_a7421_6 : decode cJ5_inflateIfNeededFor_a7421 6 = .ok (.aload_n 0, 1) := by decide +kernel
theorem dJ5_inflateIfNeededFor_a7421_7 : decode cJ5_inflateIfNeededFor_a7421 7 = .ok (.getfield 22, 3) := by decide +kernel
theorem dJ5_inflateIfNeededFor_a7421_10 : decode cJ5_inflateIfNeededFor_a7421 10 = .ok (.aload_n 1, 1) := by decide +kernel
theorem dJ5_inflateIfNeededFor_a7421_11 : decode cJ5_inflateIfNeededFor_a7421 11 = .ok (.invokevirtual 40, 3) := by decide +kernel
theorem dJ5_inflateIfNeededFor_a7421_14 : decode cJ5_inflateIfNeededFor_a7421 14 = .ok (.if_icmp .eq 7, 3) := by decide +kernel
theorem dJ5_inflateIfNeededFor_a7421_17 : decode cJ5_inflateIfNeededFor_a7421 17 = .ok (.aload_n 0, 1) := by decide +kernel
theorem dJ5_inflateIfNeededFor_a7421_18 : decode cJ5_inflateIfNeededFor_a7421 18 = .ok (.invokevirtual 195, 3) := by decide +kernel
theorem dJ5_inflateIfNeededFor_a7421_21 : decode cJ5_inflateIfNeededFor_a7421 21 = .ok (.return_, 1) := by decide +kernel
theorem dJ5_putStringAt_47b60_0 : decode cJ5_putStringAt_47b60 0 = .ok (.aload_n 0, 1) := by decide +kernel
theorem dJ5_putStringAt_47b60_1 : decode cJ5_putStringAt_47b60 1 = .ok (.aload_n 2, 1) := by decide +kernel
theorem dJ5_putStringAt_47b60_2 : decode cJ5_putStringAt_47b60 2 = .ok (.invokevirtual 397, 3) := by decide +kernel
theorem dJ5_putStringAt_47b60_5 : decode cJ5_putStringAt_47b60 5 = .ok (.aload_n 2, 1) := by decide +kernel
theorem dJ5_putStringAt_47b60_6 : decode cJ5_putStringAt_47b60 6 = .ok (.aload_n 0, 1) := by decide +kernel
theorem dJ5_putStringAt_47b60_7 : decode cJ5_putStringAt_47b60 7 = .ok (.getfield 15, 3) := by decide +kernel
theorem dJ5_putStringAt_47b60_10 : decode cJ5_putStringAt_47b60 10 = .ok (.iload_n 1, 1) := by decide +kernel
theorem dJ5_putStringAt_47b60_11 : decode cJ5_putStringAt_47b60 11 = .ok (.aload_n 0, 1) := by decide +kernel
theorem dJ5_putStringAt_47b60_12 : decode cJ5_putStringAt_47b60 12 = .ok (.getfield 22, 3) := by decide +kernel
theorem dJ5_putStringAt_47b60_15 : decode cJ5_putStringAt_47b60 15 = .ok (.invokevirtual 399, 3) := by decide +kernel
theorem dJ5_putStringAt_47b60_18 : decode cJ5_putStringAt_47b60 18 = .ok (.return_, 1) := by decide +kernel
theorem dJ6_getChars_ba4f3_0 : decode cJ6_getChars_ba4f3 0 = .ok (.iload_n 1, 1) := by decide +kernel
theorem dJ6_getChars_ba4f3_1 : decode cJ6_getChars_ba4f3 1 = .ok (.istore 5, 2) := by decide +kernel
theorem dJ6_getChars_ba4f3_3 : decode cJ6_getChars_ba4f3 3 = .ok (.iload_n 0, 1) := by decide +kernel
theorem dJ6_getChars_ba4f3_4 : decode cJ6_getChars_ba4f3 4 = .ok (.ifCond .ge 7, 3) := by decide +kernel
theorem dJ6_getChars_ba4f3_7 : decode cJ6_getChars_ba4f3 7 = .ok (.iconst 1, 1) := by decide +kernel
theorem dJ6_getChars_ba4f3_8 : decode cJ6_getChars_ba4f3 8 = .ok (.goto 4, 3) := by decide +kernel
theorem dJ6_getChars_ba4f3_11 : decode cJ6_getChars_ba4f3 11 = .ok (.iconst 0, 1) := by decide +kernel
theorem dJ6_getChars_ba4f3_12 : decode cJ6_getChars_ba4f3 12 = .ok (.istore 6, 2) := by decide +kernel
theorem dJ6_getChars_ba4f3_14 : decode cJ6_getChars_ba4f3 14 = .ok (.iload 6, 2) := by decide +kernel
theorem dJ6_getChars_ba4f3_16 : decode cJ6_getChars_ba4f3 16 = .ok (.ifCond .ne 6, 3) := by decide +kernel
theorem dJ6_getChars_ba4f3_19 : decode cJ6_getChars_ba4f3 19 = .ok (.iload_n 0, 1) := by decide +kernel
theorem dJ6_getChars_ba4f3_20 : decode cJ6_getChars_ba4f3 20 = .ok (.ineg, 1) := by decide +kernel
theorem dJ6_getChars_ba4f3_21 : decode cJ6_getChars_ba4f3 21 = .ok (.istore_n 0, 1) := by decide +kernel
theorem dJ6_getChars_ba4f3_22 : decode cJ6_getChars_ba4f3 22 = .ok (.iload_n 0, 1) := by decide +kernel
theorem dJ6_getChars_ba4f3_23 : decode cJ6_getChars_ba4f3 23 = .ok (.bipush (-100), 2) := by decide +kernel
theorem dJ6_getChars_ba4f3_25 : decode cJ6_getChars_ba4f3 25 = .ok (.if_icmp .gt 47, 3) := by decide +kernel
theorem dJ6_getChars_ba4f3_28 : decode cJ6_getChars_ba4f3 28 = .ok (.iload_n 0, 1) := by decide +kernel
theorem dJ6_getChars_ba4f3_29 : decode cJ6_getChars_ba4f3 29 = .ok (.bipush 100, 2) := by decide +kernel
theorem dJ6_getChars_ba4f3_31 : decode cJ6_getChars_ba4f3 31 = .ok (.idiv, 1) := by decide +kernel
theorem dJ6_getChars_ba4f3_32 : decode cJ6_getChars_ba4f3 32 = .ok (.istore_n 3, 1) := by decide +kernel
theorem dJ6_getChars_ba4f3_33 : decode cJ6_getChars_ba4f3 33 = .ok (.iload_n 3, 1) := by decide +kernel
theorem dJ6_getChars_ba4f3_34 : decode cJ6_getChars_ba4f3 34 = .ok (.bipush 100, 2) := by decide +kernel
theorem dJ6_getChars_ba4f3_36 : decode cJ6_getChars_ba4f3 36 = .ok (.imul, 1) := by decide +kernel
theorem dJ6_getChars_ba4f3_37 : decode cJ6_getChars_ba4f3 37 = .ok (.iload_n 0, 1) := by decide +kernel
theorem dJ6_getChars_ba4f3_38 : decode cJ6_getChars_ba4f3 38 = .ok (.isub, 1) := by decide +kernel
theorem dJ6_getChars_ba4f3_39 : decode cJ6_getChars_ba4f3 39 = .ok (.istore 4, 2) := by decide +kernel
theorem dJ6_getChars_ba4f3_41 : decode cJ6_getChars_ba4f3 41 = .ok (.iload_n 3, 1) := by decide +kernel
theorem dJ6_getChars_ba4f3_42 : decode cJ6_getChars_ba4f3 42 = .ok (.istore_n 0, 1) := by decide +kernel
theorem dJ6_getChars_ba4f3_43 : decode cJ6_getChars_ba4f3 43 = .ok (.aload_n 2, 1) := by decide +kernel
theorem dJ6_getChars_ba4f3_44 : decode cJ6_getChars_ba4f3 44 = .ok (.iinc 5 (-1), 3) := by decide +kernel
theorem dJ6_getChars_ba4f3_47 : decode cJ6_getChars_ba4f3 47 = .ok (.iload 5, 2) := by decide +kernel
theorem dJ6_getChars_ba4f3_49 : decode cJ6_getChars_ba4f3 49 = .ok (.getstatic 83, 3) := by decide +kernel
theorem dJ6_getChars_ba4f3_52 : decode cJ6_getChars_ba4f3 52 = .ok (.iload 4, 2) := by decide +kernel
theorem dJ6_getChars_ba4f3_54 : decode cJ6_getChars_ba4f3 54 = .ok (.baload, 1) := by decide +kernel
theorem dJ6_getChars_ba4f3_55 : decode cJ6_getChars_ba4f3 55 = .ok (.bastore, 1) := by decide +kernel
theorem dJ6_getChars_ba4f3_56 : decode cJ6_getChars_ba4f3 56 = .ok (.aload_n 2, 1) := by decide +kernel
theorem dJ6_getChars_ba4f3_57 : decode cJ6_getChars_ba4f3 57 = .ok (.iinc 5 (-1), 3) := by decide +kernel
theorem dJ6_getChars_ba4f3_60 : decode cJ6_getChars_ba4f3 60 = .ok (.iload 5, 2) := by decide +kernel
theorem dJ6_getChars_ba4f3_62 : decode cJ6_getChars_ba4f3 62 = .ok (.getstatic 87, 3) := by decide +kernel
theorem dJ6_getChars_ba4f3_65 : decode cJ6_getChars_ba4f3 65 = .ok (.iload 4, 2) := by decide +kernel
theorem dJ6_getChars_ba4f3_67 : decode cJ6_getChars_ba4f3 67 = .ok (.baload, 1) := by decide +kernel
theorem dJ6_getChars_ba4f3_68 : decode cJ6_getChars_ba4f3 68 = .ok (.bastore, 1) := by decide +kernel
theorem dJ6_getChars_ba4f3_69 : decode cJ6_getChars_ba4f3 69 = .ok (.goto (-47), 3) := by decide +kernel
theorem dJ6_getChars_ba4f3_72 : decode cJ6_getChars_ba4f3 72 = .ok (.aload_n 2, 1) := by decide +kernel
theorem dJ6_getChars_ba4f3_73 : decode cJ6_getChars_ba4f3 73 = .ok (.iinc 5 (-1), 3) := by decide +kernel
theorem dJ6_getChars_ba4f3_76 : decode cJ6_getChars_ba4f3 76 = .ok (.iload 5, 2) := by decide +kernel
theorem dJ6_getChars_ba4f3_78 : decode cJ6_getChars_ba4f3 78 = .ok (.getstatic 83, 3) := by decide +kernel
theorem dJ6_getChars_ba4f3_81 : decode cJ6_getChars_ba4f3 81 = .ok (.iload_n 0, 1) := by decide +kernel
theorem dJ6_getChars_ba4f3_82 : decode cJ6_getChars_ba4f3 82 = .ok (.ineg, 1) := by decide +kernel
theorem dJ6_getChars_ba4f3_83 : decode cJ6_getChars_ba4f3 83 = .ok (.baload, 1) := by decide +kernel
theorem dJ6_getChars_ba4f3_84 : decode cJ6_getChars_ba4f3 84 = .ok (.bastore, 1) := by decide +kernel
theorem dJ6_getChars_ba4f3_85 : decode cJ6_getChars_ba4f3 85 = .ok (.iload_n 0, 1) := by decide +kernel
theorem dJ6_getChars_ba4f3_86 : decode cJ6_getChars_ba4f3 86 = .ok (.bipush (-9), 2) := by decide +kernel
theorem dJ6_getChars_ba4f3_88 : decode cJ6_getChars_ba4f3 88 = .ok (.if_icmp .ge 16, 3) := by decide +kernel
theorem dJ6_getChars_ba4f3_91 : decode cJ6_getChars_ba4f3 91 = .ok (.aload_n 2, 1) := by decide +kernel
theorem dJ6_getChars_ba4f3_92 : decode cJ6_getChars_ba4f3 92 = .ok (.iinc 5 (-1), 3) := by decide +kernel
theorem dJ6_getChars_ba4f3_95 : decode cJ6_getChars_ba4f3 95 = .ok (.iload 5, 2) := by decide +kernel
theorem dJ6_getChars_ba4f3_97 : decode cJ6_getChars_ba4f3 97 = .ok (.getstatic 87, 3) := by decide +kernel
theorem dJ6_getChars_ba4f3_100 : decode cJ6_getChars_ba4f3 100 = .ok (.iload_n 0, 1) := by decide +kernel
theorem dJ6_getChars_ba4f3_101 : decode cJ6_getChars_ba4f3 101 = .ok (.ineg, 1) := by decide +kernel
theorem dJ6_getChars_ba4f3_102 : decode cJ6_getChars_ba4f3 102 = .ok (.baload, 1) := by decide +kernel
theorem dJ6_getChars_ba4f3_103 : decode cJ6_getChars_ba4f3 103 = .ok (.bastore, 1) := by decide +kernel
theorem dJ6_getChars_ba4f3_104 : decode cJ6_getChars_ba4f3 104 = .ok (.iload 6, 2) := by decide +kernel
theorem dJ6_getChars_ba4f3_106 : decode cJ6_getChars_ba4f3 106 = .ok (.ifCond .eq 12, 3) := by decide +kernel
theorem dJ6_getChars_ba4f3_109 : decode cJ6_getChars_ba4f3 109 = .ok (.aload_n 2, 1) := by decide +kernel
theorem dJ6_getChars_ba4f3_110 : decode cJ6_getChars_ba4f3 110 = .ok (.iinc 5 (-1), 3) := by decide +kernel
theorem dJ6_getChars_ba4f3_113 : decode cJ6_getChars_ba4f3 113 = .ok (.iload 5, 2) := by decide +kernel
theorem dJ6_getChars_ba4f3_115 : decode cJ6_getChars_ba4f3 115 = .ok (.bipush 45, 2) := by decide +kernel
theorem dJ6_getChars_ba4f3_117 : decode cJ6_getChars_ba4f3 117 = .ok (.bastore, 1) := by decide +kernel
theorem dJ6_getChars_ba4f3_118 : decode cJ6_getChars_ba4f3 118 = .ok (.iload 5, 2) := by decide +kernel
theorem dJ6_getChars_ba4f3_120 : decode cJ6_getChars_ba4f3 120 = .ok (.ireturn, 1) := by decide +kernel
theorem dJ6_stringSize_0f7a4_0 : decode cJ6_stringSize_0f7a4 0 = .ok (.iconst 1, 1) := by decide +kernel
theorem dJ6_stringSize_0f7a4_1 : decode cJ6_stringSize_0f7a4 1 = .ok (.istore_n 1, 1) := by decide +kernel
theorem dJ6_stringSize_0f7a4_2 : decode cJ6_stringSize_0f7a4 2 = .ok (.iload_n 0, 1) := by decide +kernel
theorem dJ6_stringSize_0f7a4_3 : decode cJ6_stringSize_0f7a4 3 = .ok (.ifCond .lt 8, 3) := by decide +kernel
theorem dJ6_stringSize_0f7a4_6 : decode cJ6_stringSize_0f7a4 6 = .ok (.iconst 0, 1) := by decide +kernel
theorem dJ6_stringSize_0f7a4_7 : decode cJ6_stringSize_0f7a4 7 = .ok (.istore_n 1, 1) := by decide +kernel
theorem dJ6_stringSize_0f7a4_8 : decode cJ6_stringSize_0f7a4 8 = .ok (.iload_n 0, 1) := by decide +kernel
theorem dJ6_stringSize_0f7a4_9 : decode cJ6_stringSize_0f7a4 9 = .ok (.ineg, 1) := by decide +kernel
theorem dJ6_stringSize_0f7a4_10 : decode cJ6_stringSize_0f7a4 10 = .ok (.istore_n 0, 1) := by decide +kernel
theorem dJ6_stringSize_0f7a4_11 : decode cJ6_stringSize_0f7a4 11 = .ok (.bipush (-10), 2) := by decide +kernel
theorem dJ6_stringSize_0f7a4_13 : decode cJ6_stringSize_0f7a4 13 = .ok (.istore_n 2, 1) := by decide +kernel
theorem dJ6_stringSize_0f7a4_14 : decode cJ6_stringSize_0f7a4 14 = .ok (.iconst 1, 1) := by decide +kernel
theorem dJ6_stringSize_0f7a4_15 : decode cJ6_stringSize_0f7a4 15 = .ok (.istore_n 3, 1) := by decide +kernel
theorem dJ6_stringSize_0f7a4_16 : decode cJ6_stringSize_0f7a4 16 = .ok (.iload_n 3, 1) := by decide +kernel
theorem dJ6_stringSize_0f7a4_17 : decode cJ6_stringSize_0f7a4 17 = .ok (.bipush 10, 2) := by decide +kernel
theorem dJ6_stringSize_0f7a4_19 : decode cJ6_stringSize_0f7a4 19 = .ok (.if_icmp .ge 23, 3) := by decide +kernel
theorem dJ6_stringSize_0f7a4_22 : decode cJ6_stringSize_0f7a4 22 = .ok (.iload_n 0, 1) := by decide +kernel
theorem dJ6_stringSize_0f7a4_23 : decode cJ6_stringSize_0f7a4 23 = .ok (.iload_n 2, 1) := by decide +kernel
theorem dJ6_stringSize_0f7a4_24 : decode cJ6_stringSize_0f7a4 24 = .ok (.if_icmp .le 7, 3) := by decide +kernel
theorem dJ6_stringSize_0f7a4_27 : decode cJ6_stringSize_0f7a4 27 = .ok (.iload_n 3, 1) := by decide +kernel
theorem dJ6_stringSize_0f7a4_28 : decode cJ6_stringSize_0f7a4 28 = .ok (.iload_n 1, 1) := by decide +kernel
theorem dJ6_stringSize_0f7a4_29 : decode cJ6_stringSize_0f7a4 29 = .ok (.iadd, 1) := by decide +kernel
theorem dJ6_stringSize_0f7a4_30 : decode cJ6_stringSize_0f7a4 30 = .ok (.ireturn, 1) := by decide +kernel
theorem dJ6_stringSize_0f7a4_31 : decode cJ6_stringSize_0f7a4 31 = .ok (.bipush 10, 2) := by decide +kernel
theorem dJ6_stringSize_0f7a4_33 : decode cJ6_stringSize_0f7a4 33 = .ok (.iload_n 2, 1) := by decide +kernel
theorem dJ6_stringSize_0f7a4_34 : decode cJ6_stringSize_0f7a4 34 = .ok (.imul, 1) := by decide +kernel
theorem dJ6_stringSize_0f7a4_35 : decode cJ6_stringSize_0f7a4 35 = .ok (.istore_n 2, 1) := by decide +kernel
theorem dJ6_stringSize_0f7a4_36 : decode cJ6_stringSize_0f7a4 36 = .ok (.iinc 3 1, 3) := by decide +kernel
theorem dJ6_stringSize_0f7a4_39 : decode cJ6_stringSize_0f7a4 39 = .ok (.goto (-23), 3) := by decide +kernel
theorem dJ6_stringSize_0f7a4_42 : decode cJ6_stringSize_0f7a4 42 = .ok (.bipush 10, 2) := by decide +kernel
theorem dJ6_stringSize_0f7a4_44 : decode cJ6_stringSize_0f7a4 44 = .ok (.iload_n 1, 1) := by decide +kernel
theorem dJ6_stringSize_0f7a4_45 : decode cJ6_stringSize_0f7a4 45 = .ok (.iadd, 1) := by decide +kernel
theorem dJ6_stringSize_0f7a4_46 : decode cJ6_stringSize_0f7a4 46 = .ok (.ireturn, 1) := by decide +kernel
theorem dJ6_bitCount_0f7a4_0 : decode cJ6_bitCount_0f7a4 0 = .ok (.iload_n 0, 1) := by decide +kernel
theorem dJ6_bitCount_0f7a4_1 : decode cJ6_bitCount_0f7a4 1 = .ok (.iload_n 0, 1) := by decide +kernel
theorem dJ6_bitCount_0f7a4_2 : decode cJ6_bitCount_0f7a4 2 = .ok (.iconst 1, 1) := by decide +kernel
theorem dJ6_bitCount_0f7a4_3 : decode cJ6_bitCount_0f7a4 3 = .ok (.iushr, 1) := by decide +kernel
theorem dJ6_bitCount_0f7a4_4 : decode cJ6_bitCount_0f7a4 4 = .ok (.ldc_w 265, 3) := by decide +kernel
theorem dJ6_bitCount_0f7a4_7 : decode cJ6_bitCount_0f7a4 7 = .ok (.iand, 1) := by decide +kernel
theorem dJ6_bitCount_0f7a4_8 : decode cJ6_bitCount_0f7a4 8 = .ok (.isub, 1) := by decide +kernel
theorem dJ6_bitCount_0f7a4_9 : decode cJ6_bitCount_0f7a4 9 = .ok (.istore_n 0, 1) := by decide +kernel
theorem dJ6_bitCount_0f7a4_10 : decode cJ6_bitCount_0f7a4 10 = .ok (.iload_n 0, 1) := by decide +kernel
theorem dJ6_bitCount_0f7a4_11 : decode cJ6_bitCount_0f7a4 11 = .ok (.ldc_w 266, 3) := by decide +kernel
theorem dJ6_bitCount_0f7a4_14 : decode cJ6_bitCount_0f7a4 14 = .ok (.iand, 1) := by decide +kernel
theorem dJ6_bitCount_0f7a4_15 : decode cJ6_bitCount_0f7a4 15 = .ok (.iload_n 0, 1) := by decide +kernel
theorem dJ6_bitCount_0f7a4_16 : decode cJ6_bitCount_0f7a4 16 = .ok (.iconst 2, 1) := by decide +kernel
theorem dJ6_bitCount_0f7a4_17 : decode cJ6_bitCount_0f7a4 17 = .ok (.iushr, 1) := by decide +kernel
theorem dJ6_bitCount_0f7a4_18 : decode cJ6_bitCount_0f7a4 18 = .ok (.ldc_w 266, 3) := by decide +kernel
theorem dJ6_bitCount_0f7a4_21 : decode cJ6_bitCount_0f7a4 21 = .ok (.iand, 1) := by decide +kernel
theorem dJ6_bitCount_0f7a4_22 : decode cJ6_bitCount_0f7a4 22 = .ok (.iadd, 1) := by decide +kernel
theorem dJ6_bitCount_0f7a4_23 : decode cJ6_bitCount_0f7a4 23 = .ok (.istore_n 0, 1) := by decide +kernel
theorem dJ6_bitCount_0f7a4_24 : decode cJ6_bitCount_0f7a4 24 = .ok (.iload_n 0, 1) := by decide +kernel
theorem dJ6_bitCount_0f7a4_25 : decode cJ6_bitCount_0f7a4 25 = .ok (.iload_n 0, 1) := by decide +kernel
theorem dJ6_bitCount_0f7a4_26 : decode cJ6_bitCount_0f7a4 26 = .ok (.iconst 4, 1) := by decide +kernel
theorem dJ6_bitCount_0f7a4_27 : decode cJ6_bitCount_0f7a4 27 = .ok (.iushr, 1) := by decide +kernel
theorem dJ6_bitCount_0f7a4_28 : decode cJ6_bitCount_0f7a4 28 = .ok (.iadd, 1) := by decide +kernel
theorem dJ6_bitCount_0f7a4_29 : decode cJ6_bitCount_0f7a4 29 = .ok (.ldc_w 267, 3) := by decide +kernel
theorem dJ6_bitCount_0f7a4_32 : decode cJ6_bitCount_0f7a4 32 = .ok (.iand, 1) := by decide +kernel
theorem dJ6_bitCount_0f7a4_33 : decode cJ6_bitCount_0f7a4 33 = .ok (.istore_n 0, 1) := by decide +kernel
theorem dJ6_bitCount_0f7a4_34 : decode cJ6_bitCount_0f7a4 34 = .ok (.iload_n 0, 1) := by decide +kernel
theorem dJ6_bitCount_0f7a4_35 : decode cJ6_bitCount_0f7a4 35 = .ok (.iload_n 0, 1) := by decide +kernel
theorem dJ6_bitCount_0f7a4_36 : decode cJ6_bitCount_0f7a4 36 = .ok (.bipush 8, 2) := by decide +kernel
theorem dJ6_bitCount_0f7a4_38 : decode cJ6_bitCount_0f7a4 38 = .ok (.iushr, 1) := by decide +kernel
theorem dJ6_bitCount_0f7a4_39 : decode cJ6_bitCount_0f7a4 39 = .ok (.iadd, 1) := by decide +kernel
theorem dJ6_bitCount_0f7a4_40 : decode cJ6_bitCount_0f7a4 40 = .ok (.istore_n 0, 1) := by decide +kernel
theorem dJ6_bitCount_0f7a4_41 : decode cJ6_bitCount_0f7a4 41 = .ok (.iload_n 0, 1) := by decide +kernel
theorem dJ6_bitCount_0f7a4_42 : decode cJ6_bitCount_0f7a4 42 = .ok (.iload_n 0, 1) := by decide +kernel
theorem dJ6_bitCount_0f7a4_43 : decode cJ6_bitCount_0f7a4 43 = .ok (.bipush 16, 2) := by decide +kernel
theorem dJ6_bitCount_0f7a4_45 : decode cJ6_bitCount_0f7a4 45 = .ok (.iushr, 1) := by decide +kernel
theorem dJ6_bitCount_0f7a4_46 : decode cJ6_bitCount_0f7a4 46 = .ok (.iadd, 1) := by decide +kernel
theorem dJ6_bitCount_0f7a4_47 : decode cJ6_bitCount_0f7a4 47 = .ok (.istore_n 0, 1) := by decide +kernel
theorem dJ6_bitCount_0f7a4_48 : decode cJ6_bitCount_0f7a4 48 = .ok (.iload_n 0, 1) := by decide +kernel
theorem dJ6_bitCount_0f7a4_49 : decode cJ6_bitCount_0f7a4 49 = .ok (.bipush 63, 2) := by decide +kernel
theorem dJ6_bitCount_0f7a4_51 : decode cJ6_bitCount_0f7a4 51 = .ok (.iand, 1) := by decide +kernel
theorem dJ6_bitCount_0f7a4_52 : decode cJ6_bitCount_0f7a4 52 = .ok (.ireturn, 1) := by decide +kernel
theorem dJ9_max_7cf53_0 : decode cJ9_max_7cf53 0 = .ok (.iload_n 0, 1) := by decide +kernel
theorem dJ9_max_7cf53_1 : decode cJ9_max_7cf53 1 = .ok (.iload_n 1, 1) := by decide +kernel
theorem dJ9_max_7cf53_2 : decode cJ9_max_7cf53 2 = .ok (.if_icmp .lt 7, 3) := by decide +kernel
theorem dJ9_max_7cf53_5 : decode cJ9_max_7cf53 5 = .ok (.iload_n 0, 1) := by decide +kernel
theorem dJ9_max_7cf53_6 : decode cJ9_max_7cf53 6 = .ok (.goto 4, 3) := by decide +kernel
theorem dJ9_max_7cf53_9 : decode cJ9_max_7cf53 9 = .ok (.iload_n 1, 1) := by decide +kernel
theorem dJ9_max_7cf53_10 : decode cJ9_max_7cf53 10 = .ok (.ireturn, 1) := by decide +kernel
theorem dJ9_min_7cf53_0 : decode cJ9_min_7cf53 0 = .ok (.iload_n 0, 1) := by decide +kernel
theorem dJ9_min_7cf53_1 : decode cJ9_min_7cf53 1 = .ok (.iload_n 1, 1) := by decide +kernel
theorem dJ9_min_7cf53_2 : decode cJ9_min_7cf53 2 = .ok (.if_icmp .gt 7, 3) := by decide +kernel
theorem dJ9_min_7cf53_5 : decode cJ9_min_7cf53 5 = .ok (.iload_n 0, 1) := by decide +kernel
theorem dJ9_min_7cf53_6 : decode cJ9_min_7cf53 6 = .ok (.goto 4, 3) := by decide +kernel
theorem dJ9_min_7cf53_9 : decode cJ9_min_7cf53 9 = .ok (.iload_n 1, 1) := by decide +kernel
theorem dJ9_min_7cf53_10 : decode cJ9_min_7cf53 10 = .ok (.ireturn, 1) := by decide +kernel
theorem dJ0_init_81219_0 : decode cJ0_init_81219 0 = .ok (.aload_n 0, 1) := by decide +kernel
theorem dJ0_init_81219_1 : decode cJ0_init_81219 1 = .ok (.aload_n 1, 1) := by decide +kernel
theorem dJ0_init_81219_2 : decode cJ0_init_81219 2 = .ok (.aconst_null, 1) := by decide +kernel
theorem dJ0_init_81219_3 : decode cJ0_init_81219 3 = .ok (.invokespecial 489, 3) := by decide +kernel
theorem dJ0_init_81219_6 : decode cJ0_init_81219 6 = .ok (.return_, 1) := by decide +kernel
theorem dJ0_length_8abf5_0 : decode cJ0_length_8abf5 0 = .ok (.aload_n 0, 1) := by decide +kernel
theorem dJ0_length_8abf5_1 : decode cJ0_length_8abf5 1 = .ok (.getfield 9, 3) := by decide +kernel
theorem dJ0_length_8abf5_4 : decode cJ0_length_8abf5 4 = .ok (.arraylength, 1) := by decide +kernel
theorem dJ0_length_8abf5_5 : decode cJ0_length_8abf5 5 = .ok (.aload_n 0, 1) := by decide +kernel
theorem dJ0_length_8abf5_6 : decode cJ0_length_8abf5 6 = .ok (.invokevirtual 335, 3) := by decide +kernel
theorem dJ0_length_8abf5_9 : decode cJ0_length_8abf5 9 = .ok (.ishr, 1) := by decide +kernel
theorem dJ0_length_8abf5_10 : decode cJ0_length_8abf5 10 = .ok (.ireturn, 1) := by decide +kernel
theorem dJ0_charAt_5068e_0 : decode cJ0_charAt_5068e 0 = .ok (.aload_n 0, 1) := by decide +kernel
theorem dJ0_charAt_5068e_1 : decode cJ0_charAt_5068e 1 = .ok (.invokevirtual 492, 3) := by decide +kernel
theorem dJ0_charAt_5068e_4 : decode cJ0_charAt_5068e 4 = .ok (.ifCond .eq 12, 3) := by decide +kernel
theorem dJ0_charAt_5068e_7 : decode cJ0_charAt_5068e 7 = .ok (.aload_n 0, 1) := by decide +kernel
theorem dJ0_charAt_5068e_8 : decode cJ0_charAt_5068e 8 = .ok (.getfield 9, 3) := by decide +kernel
theorem dJ0_charAt_5068e_11 : decode cJ0_charAt_5068e 11 = .ok (.iload_n 1, 1) := by decide +kernel
theorem dJ0_charAt_5068e_12 : decode cJ0_charAt_5068e 12 = .ok (.invokestatic 495, 3) := by decide +kernel
theorem dJ0_charAt_5068e_15 : decode cJ0_charAt_5068e 15 = .ok (.ireturn, 1) := by decide +kernel
theorem dJ0_charAt_5068e_16 : decode cJ0_charAt_5068e 16 = .ok (.aload_n 0, 1) := by decide +kernel
theorem dJ0_charAt_5068e_17 : decode cJ0_charAt_5068e 17 = .ok (.getfield 9, 3) := by decide +kernel
theorem dJ0_charAt_5068e_20 : decode cJ0_charAt_5068e 20 = .ok (.iload_n 1, 1) := by decide +kernel
theorem dJ0_charAt_5068e_21 : decode cJ0_charAt_5068e 21 = .ok (.invokestatic 498, 3) := by decide +kernel
theorem dJ0_charAt_5068e_24 : decode cJ0_charAt_5068e 24 = .ok (.ireturn, 1) := by decide +kernel
theorem dJ0_getBytes_840e7_0 : decode cJ0_getBytes_840e7 0 = .ok (.aload_n 0, 1) := by decide +kernel
theorem dJ0_getBytes_840e7_1 : decode cJ0_getBytes_840e7 1 = .ok (.invokevirtual 335, 3) := by decide +kernel
theorem dJ0_getBytes_840e7_4 : decode cJ0_getBytes_840e7 4 = .ok (.iload_n 3, 1) := by decide +kernel
theorem dJ0_getBytes_840e7_5 : decode cJ0_getBytes_840e7 5 = .ok (.if_icmp .ne 23, 3) := by decide +kernel
theorem dJ0_getBytes_840e7_8 : decode cJ0_getBytes_840e7 8 = .ok (.aload_n 0, 1) := by decide +kernel
theorem dJ0_getBytes_840e7_9 : decode cJ0_getBytes_840e7 9 = .ok (.getfield 9, 3) := by decide +kernel
theorem dJ0_getBytes_840e7_12 : decode cJ0_getBytes_840e7 12 = .ok (.iconst 0, 1) := by decide +kernel
theorem dJ0_getBytes_840e7_13 : decode cJ0_getBytes_840e7 13 = .ok (.aload_n 1, 1) := by decide +kernel
theorem dJ0_getBytes_840e7_14 : decode cJ0_getBytes_840e7 14 = .ok (.iload_n 2, 1) := by decide +kernel
theorem dJ0_getBytes_840e7_15 : decode cJ0_getBytes_840e7 15 = .ok (.iload_n 3, 1) := by decide +kernel
theorem dJ0_getBytes_840e7_16 : decode cJ0_getBytes_840e7 16 = .ok (.ishl, 1) := by decide +kernel
theorem dJ0_getBytes_840e7_17 : decode cJ0_getBytes_840e7 17 = .ok (.aload_n 0, 1) := by decide +kernel
theorem dJ0_getBytes_840e7_18 : decode cJ0_getBytes_840e7 18 = .ok (.getfield 9, 3) := by decide +kernel
theorem dJ0_getBytes_840e7_21 : decode cJ0_getBytes_840e7 21 = .ok (.arraylength, 1) := by decide +kernel
theorem dJ0_getBytes_840e7_22 : decode cJ0_getBytes_840e7 22 = .ok (.invokestatic 212, 3) := by decide +kernel
theorem dJ0_getBytes_840e7_25 : decode cJ0_getBytes_840e7 25 = .ok (.goto 18, 3) := by decide +kernel
theorem dJ0_getBytes_840e7_28 : decode cJ0_getBytes_840e7 28 = .ok (.aload_n 0, 1) := by decide +kernel
theorem dJ0_getBytes_840e7_29 : decode cJ0_getBytes_840e7 29 = .ok (.getfield 9, 3) := by decide +kernel
theorem dJ0_getBytes_840e7_32 : decode cJ0_getBytes_840e7 32 = .ok (.iconst 0, 1) := by decide +kernel
theorem dJ0_getBytes_840e7_33 : decode cJ0_getBytes_840e7 33 = .ok (.aload_n 1, 1) := by decide +kernel
theorem dJ0_getBytes_840e7_34 : decode cJ0_getBytes_840e7 34 = .ok (.iload_n 2, 1) := by decide +kernel
theorem dJ0_getBytes_840e7_35 : decode cJ0_getBytes_840e7 35 = .ok (.aload_n 0, 1) := by decide +kernel
theorem dJ0_getBytes_840e7_36 : decode cJ0_getBytes_840e7 36 = .ok (.getfield 9, 3) := by decide +kernel
theorem dJ0_getBytes_840e7_39 : decode cJ0_getBytes_840e7 39 = .ok (.arraylength, 1) := by decide +kernel
theorem dJ0_getBytes_840e7_40 : decode cJ0_getBytes_840e7 40 = .ok (.invokestatic 106, 3) := by decide +kernel
theorem dJ0_getBytes_840e7_43 : decode cJ0_getBytes_840e7 43 = .ok (.return_, 1) := by decide +kernel
theorem dJ0_init_db425_0 : decode cJ0_init_db425 0 = .ok (.aload_n 0, 1) := by decide +kernel
theorem dJ0_init_db425_1 : decode cJ0_init_db425 1 = .ok (.invokespecial 1, 3) := by decide +kernel
theorem dJ0_init_db425_4 : decode cJ0_init_db425 4 = .ok (.aload_n 1, 1) := by decide +kernel
theorem dJ0_init_db425_5 : decode cJ0_init_db425 5 = .ok (.invokevirtual 552, 3) := by decide +kernel
theorem dJ0_init_db425_8 : decode cJ0_init_db425 8 = .ok (.astore_n 3, 1) := by decide +kernel
theorem dJ0_init_db425_9 : decode cJ0_init_db425 9 = .ok (.aload_n 1, 1) := by decide +kernel
theorem dJ0_init_db425_10 : decode cJ0_init_db425 10 = .ok (.invokevirtual 549, 3) := by decide +kernel
theorem dJ0_init_db425_13 : decode cJ0_init_db425 13 = .ok (.istore 4, 2) := by decide +kernel
theorem dJ0_init_db425_15 : decode cJ0_init_db425 15 = .ok (.aload_n 1, 1) := by decide +kernel
theorem dJ0_init_db425_16 : decode cJ0_init_db425 16 = .ok (.invokevirtual 1047, 3) := by decide +kernel
theorem dJ0_init_db425_19 : decode cJ0_init_db425 19 = .ok (.ifCond .eq 22, 3) := by decide +kernel
theorem dJ0_init_db425_22 : decode cJ0_init_db425 22 = .ok (.aload_n 0, 1) := by decide +kernel
theorem dJ0_init_db425_23 : decode cJ0_init_db425 23 = .ok (.iconst 0, 1) := by decide +kernel
theorem dJ0_init_db425_24 : decode cJ0_init_db425 24 = .ok (.putfield 15, 3) := by decide +kernel
theorem dJ0_init_db425_27 : decode cJ0_init_db425 27 = .ok (.aload_n 0, 1) := by decide +kernel
theorem dJ0_init_db425_28 : decode cJ0_init_db425 28 = .ok (.aload_n 3, 1) := by decide +kernel
theorem dJ0_init_db425_29 : decode cJ0_init_db425 29 = .ok (.iconst 0, 1) := by decide +kernel
theorem dJ0_init_db425_30 : decode cJ0_init_db425 30 = .ok (.iload 4, 2) := by decide +kernel
theorem dJ0_init_db425_32 : decode cJ0_init_db425 32 = .ok (.invokestatic 54, 3) := by decide +kernel
theorem dJ0_init_db425_35 : decode cJ0_init_db425 35 = .ok (.putfield 9, 3) := by decide +kernel
theorem dJ0_init_db425_38 : decode cJ0_init_db425 38 = .ok (.goto 59, 3) := by decide +kernel
theorem dJ0_init_db425_41 : decode cJ0_init_db425 41 = .ok (.getstatic 38, 3) := by decide +kernel
theorem dJ0_init_db425_44 : decode cJ0_init_db425 44 = .ok (.ifCond .eq 35, 3) := by decide +kernel
theorem dJ0_init_db425_47 : decode cJ0_init_db425 47 = .ok (.aload_n 1, 1) := by decide +kernel
theorem dJ0_init_db425_48 : decode cJ0_init_db425 48 = .ok (.getfield 1048, 3) := by decide +kernel
theorem dJ0_init_db425_51 : decode cJ0_init_db425 51 = .ok (.ifCond .eq 28, 3) := by decide +kernel
theorem dJ0_init_db425_54 : decode cJ0_init_db425 54 = .ok (.aload_n 0, 1) := by decide +kernel
theorem dJ0_init_db425_55 : decode cJ0_init_db425 55 = .ok (.aload_n 3, 1) := by decide +kernel
theorem dJ0_init_db425_56 : decode cJ0_init_db425 56 = .ok (.iconst 0, 1) := by decide +kernel
theorem dJ0_init_db425_57 : decode cJ0_init_db425 57 = .ok (.iload 4, 2) := by decide +kernel
theorem dJ0_init_db425_59 : decode cJ0_init_db425 59 = .ok (.invokestatic 1051, 3) := by decide +kernel
theorem dJ0_init_db425_62 : decode cJ0_init_db425 62 = .ok (.putfield 9, 3) := by decide +kernel
theorem dJ0_init_db425_65 : decode cJ0_init_db425 65 = .ok (.aload_n 0, 1) := by decide +kernel
theorem dJ0_init_db425_66 : decode cJ0_init_db425 66 = .ok (.aload_n 0, 1) := by decide +kernel
theorem dJ0_init_db425_67 : decode cJ0_init_db425 67 = .ok (.getfield 9, 3) := by decide +kernel
theorem dJ0_init_db425_70 : decode cJ0_init_db425 70 = .ok (.iload 4, 2) := by decide +kernel
theorem dJ0_init_db425_72 : decode cJ0_init_db425 72 = .ok (.invokestatic 47, 3) := by decide +kernel
theorem dJ0_init_db425_75 : decode cJ0_init_db425 75 = .ok (.putfield 15, 3) := by decide +kernel
theorem dJ0_init_db425_78 : decode cJ0_init_db425 78 = .ok (.return_, 1) := by decide +kernel
theorem dJ0_init_db425_79 : decode cJ0_init_db425 79 = .ok (.aload_n 0, 1) := by decide +kernel
theorem dJ0_init_db425_80 : decode cJ0_init_db425 80 = .ok (.iconst 1, 1) := by decide +kernel
theorem dJ0_init_db425_81 : decode cJ0_init_db425 81 = .ok (.putfield 15, 3) := by decide +kernel
theorem dJ0_init_db425_84 : decode cJ0_init_db425 84 = .ok (.aload_n 0, 1) := by decide +kernel
theorem dJ0_init_db425_85 : decode cJ0_init_db425 85 = .ok (.aload_n 3, 1) := by decide +kernel
theorem dJ0_init_db425_86 : decode cJ0_init_db425 86 = .ok (.iconst 0, 1) := by decide +kernel
theorem dJ0_init_db425_87 : decode cJ0_init_db425 87 = .ok (.iload 4, 2) := by decide +kernel
theorem dJ0_init_db425_89 : decode cJ0_init_db425 89 = .ok (.iconst 1, 1) := by decide +kernel
theorem dJ0_init_db425_90 : decode cJ0_init_db425 90 = .ok (.ishl, 1) := by decide +kernel
theorem dJ0_init_db425_91 : decode cJ0_init_db425 91 = .ok (.invokestatic 54, 3) := by decide +kernel
theorem dJ0_init_db425_94 : decode cJ0_init_db425 94 = .ok (.putfield 9, 3) := by decide +kernel
theorem dJ0_init_db425_97 : decode cJ0_init_db425 97 = .ok (.return_, 1) := by decide +kernel
theorem dJ0_coder_7d493_0 : decode cJ0_coder_7d493 0 = .ok (.getstatic 38, 3) := by decide +kernel
theorem dJ0_coder_7d493_3 : decode cJ0_coder_7d493 3 = .ok (.ifCond .eq 10, 3) := by decide +kernel
theorem dJ0_coder_7d493_6 : decode cJ0_coder_7d493 6 = .ok (.aload_n 0, 1) := by decide +kernel
theorem dJ0_coder_7d493_7 : decode cJ0_coder_7d493 7 = .ok (.getfield 15, 3) := by decide +kernel
theorem dJ0_coder_7d493_10 : decode cJ0_coder_7d493 10 = .ok (.goto 4, 3) := by decide +kernel
theorem dJ0_coder_7d493_13 : decode cJ0_coder_7d493 13 = .ok (.iconst 1, 1) := by decide +kernel
theorem dJ0_coder_7d493_14 : decode cJ0_coder_7d493 14 = .ok (.ireturn, 1) := by decide +kernel
theorem dJ0_isLatin1_aae02_0 : decode cJ0_isLatin1_aae02 0 = .ok (.getstatic 38, 3) := by decide +kernel
theorem dJ0_isLatin1_aae02_3 : decode cJ0_isLatin1_aae02 3 = .ok (.ifCond .eq 14, 3) := by decide +kernel
theorem dJ0_isLatin1_aae02_6 : decode cJ0_isLatin1_aae02 6 = .ok (.aload_n 0, 1) := by decide +kernel
theorem dJ0_isLatin1_aae02_7 : decode cJ0_isLatin1_aae02 7 = .ok (.getfield 15, 3) := by decide +kernel
theorem dJ0_isLatin1_aae02_10 : decode cJ0_isLatin1_aae02 10 = .ok (.ifCond .ne 7, 3) := by decide +kernel
theorem dJ0_isLatin1_aae02_13 : decode cJ0_isLatin1_aae02 13 = .ok (.iconst 1, 1) := by decide +kernel
theorem dJ0_isLatin1_aae02_14 : decode cJ0_isLatin1_aae02 14 = .ok (.goto 4, 3) := by decide +kernel
theorem dJ0_isLatin1_aae02_17 : decode cJ0_isLatin1_aae02 17 = .ok (.iconst 0, 1) := by decide +kernel
theorem dJ0_isLatin1_aae02_18 : decode cJ0_isLatin1_aae02 18 = .ok (.ireturn, 1) := by decide +kernel
theorem dJ0_checkIndex_df160_0 : decode cJ0_checkIndex_df160 0 = .ok (.iload_n 0, 1) := by decide +kernel
theorem dJ0_checkIndex_df160_1 : decode cJ0_checkIndex_df160 1 = .ok (.iload_n 1, 1) := by decide +kernel
theorem dJ0_checkIndex_df160_2 : decode cJ0_checkIndex_df160 2 = .ok (.getstatic 1053, 3) := by decide +kernel
theorem dJ0_checkIndex_df160_5 : decode cJ0_checkIndex_df160 5 = .ok (.invokestatic 1059, 3) := by decide +kernel
theorem dJ0_checkIndex_df160_8 : decode cJ0_checkIndex_df160 8 = .ok (.pop, 1) := by decide +kernel
theorem dJ0_checkIndex_df160_9 : decode cJ0_checkIndex_df160 9 = .ok (.return_, 1) := by decide +kernel
theorem dJ0_checkBoundsOffCount_cabcc_0 : decode cJ0_checkBoundsOffCount_cabcc 0 = .ok (.iload_n 0, 1) := by decide +kernel
theorem dJ0_checkBoundsOffCount_cabcc_1 : decode cJ0_checkBoundsOffCount_cabcc 1 = .ok (.iload_n 1, 1) := by decide +kernel
theorem dJ0_checkBoundsOffCount_cabcc_2 : decode cJ0_checkBoundsOffCount_cabcc 2 = .ok (.iload_n 2, 1) := by decide +kernel
theorem dJ0_checkBoundsOffCount_cabcc_3 : decode cJ0_checkBoundsOffCount_cabcc 3 = .ok (.getstatic 1053, 3) := by decide +kernel
theorem dJ0_checkBoundsOffCount_cabcc_6 : decode cJ0_checkBoundsOffCount_cabcc 6 = .ok (.invokestatic 1065, 3) := by decide +kernel
theorem dJ0_checkBoundsOffCount_cabcc_9 : decode cJ0_checkBoundsOffCount_cabcc 9 = .ok (.ireturn, 1) := by decide +kernel
theorem dJ0_checkBoundsBeginEnd_23922_0 : decode cJ0_checkBoundsBeginEnd_23922 0 = .ok (.iload_n 0, 1) := by decide +kernel
theorem dJ0_checkBoundsBeginEnd_23922_1 : decode cJ0_checkBoundsBeginEnd_23922 1 = .ok (.iload_n 1, 1) := by decide +kernel
theorem dJ0_checkBoundsBeginEnd_23922_2 : decode cJ0_checkBoundsBeginEnd_23922 2 = .ok (.iload_n 2, 1) := by decide +kernel
theorem dJ0_checkBoundsBeginEnd_23922_3 : decode cJ0_checkBoundsBeginEnd_23922 3 = .ok (.getstatic 1053, 3) := by decide +kernel
theorem dJ0_checkBoundsBeginEnd_23922_6 : decode cJ0_checkBoundsBeginEnd_23922 6 = .ok (.invokestatic 1062, 3) := by decide +kernel
theorem dJ0_checkBoundsBeginEnd_23922_9 : decode cJ0_checkBoundsBeginEnd_23922 9 = .ok (.pop, 1) := by decide +kernel
theorem dJ0_checkBoundsBeginEnd_23922_10 : decode cJ0_checkBoundsBeginEnd_23922 10 = .ok (.return_, 1) := by decide +kernel
theorem dJ4_init_da8c8_0 : decode cJ4_init_da8c8 0 = .ok (.aload_n 0, 1) := by decide +kernel
theorem dJ4_init_da8c8_1 : decode cJ4_init_da8c8 1 = .ok (.bipush 16, 2) := by decide +kernel
theorem dJ4_init_da8c8_3 : decode cJ4_init_da8c8 3 = .ok (.invokespecial 1, 3) := by decide +kernel
theorem dJ4_init_da8c8_6 : decode cJ4_init_da8c8 6 = .ok (.return_, 1) := by decide +kernel
theorem dJ4_append_15ec4_0 : decode cJ4_append_15ec4 0 = .ok (.aload_n 0, 1) := by decide +kernel
theorem dJ4_append_15ec4_1 : decode cJ4_append_15ec4 1 = .ok (.aload_n 1, 1) := by decide +kernel
theorem dJ4_append_15ec4_2 : decode cJ4_append_15ec4 2 = .ok (.invokespecial 29, 3) := by decide +kernel
theorem dJ4_append_15ec4_5 : decode cJ4_append_15ec4 5 = .ok (.pop, 1) := by decide +kernel
theorem dJ4_append_15ec4_6 : decode cJ4_append_15ec4 6 = .ok (.aload_n 0, 1) := by decide +kernel
theorem dJ4_append_15ec4_7 : decode cJ4_append_15ec4 7 = .ok (.areturn, 1) := by decide +kernel
theorem dJ4_append_cf468_0 : decode cJ4_append_cf468 0 = .ok (.aload_n 0, 1) := by decide +kernel
theorem dJ4_append_cf468_1 : decode cJ4_append_cf468 1 = .ok (.iload_n 1, 1) := by decide +kernel
theorem dJ4_append_cf468_2 : decode cJ4_append_cf468 2 = .ok (.invokespecial 50, 3) := by decide +kernel
theorem dJ4_append_cf468_5 : decode cJ4_append_cf468 5 = .ok (.pop, 1) := by decide +kernel
theorem dJ4_append_cf468_6 : decode cJ4_append_cf468 6 = .ok (.aload_n 0, 1) := by decide +kernel
theorem dJ4_append_cf468_7 : decode cJ4_append_cf468 7 = .ok (.areturn, 1) := by decide +kernel
theorem dJ4_append_bf812_0 : decode cJ4_append_bf812 0 = .ok (.aload_n 0, 1) := by decide +kernel
theorem dJ4_append_bf812_1 : decode cJ4_append_bf812 1 = .ok (.iload_n 1, 1) := by decide +kernel
theorem dJ4_append_bf812_2 : decode cJ4_append_bf812 2 = .ok (.invokespecial 53, 3) := by decide +kernel
theorem dJ4_append_bf812_5 : decode cJ4_append_bf812 5 = .ok (.pop, 1) := by decide +kernel
theorem dJ4_append_bf812_6 : decode cJ4_append_bf812 6 = .ok (.aload_n 0, 1) := by decide +kernel
theorem dJ4_append_bf812_7 : decode cJ4_append_bf812 7 = .ok (.areturn, 1) := by decide +kernel
theorem dJ4_toString_0e30d_0 : decode cJ4_toString_0e30d 0 = .ok (.new 18, 3) := by decide +kernel
theorem dJ4_toString_0e30d_3 : decode cJ4_toString_0e30d 3 = .ok (.dup, 1) := by decide +kernel
theorem dJ4_toString_0e30d_4 : decode cJ4_toString_0e30d 4 = .ok (.aload_n 0, 1) := by decide +kernel
theorem dJ4_toString_0e30d_5 : decode cJ4_toString_0e30d 5 = .ok (.invokespecial 137, 3) := by decide +kernel
theorem dJ4_toString_0e30d_8 : decode cJ4_toString_0e30d 8 = .ok (.areturn, 1) := by decide +kernel
theorem dJ4_length_8abf5_0 : decode cJ4_length_8abf5 0 = .ok (.aload_n 0, 1) := by decide +kernel
theorem dJ4_length_8abf5_1 : decode cJ4_length_8abf5 1 = .ok (.invokespecial 343, 3) := by decide +kernel
theorem dJ4_length_8abf5_4 : decode cJ4_length_8abf5 4 = .ok (.ireturn, 1) := by decide +kernel
theorem dJ1_charAt_3b067_0 : decode cJ1_charAt_3b067 0 = .ok (.iload_n 1, 1) := by decide +kernel
theorem dJ1_charAt_3b067_1 : decode cJ1_charAt_3b067 1 = .ok (.aload_n 0, 1) := by decide +kernel
theorem dJ1_charAt_3b067_2 : decode cJ1_charAt_3b067 2 = .ok (.arraylength, 1) := by decide +kernel
theorem dJ1_charAt_3b067_3 : decode cJ1_charAt_3b067 3 = .ok (.invokestatic 9, 3) := by decide +kernel
theorem dJ1_charAt_3b067_6 : decode cJ1_charAt_3b067 6 = .ok (.aload_n 0, 1) := by decide +kernel
theorem dJ1_charAt_3b067_7 : decode cJ1_charAt_3b067 7 = .ok (.iload_n 1, 1) := by decide +kernel
theorem dJ1_charAt_3b067_8 : decode cJ1_charAt_3b067 8 = .ok (.baload, 1) := by decide +kernel
theorem dJ1_charAt_3b067_9 : decode cJ1_charAt_3b067 9 = .ok (.sipush 255, 3) := by decide +kernel
theorem dJ1_charAt_3b067_12 : decode cJ1_charAt_3b067 12 = .ok (.iand, 1) := by decide +kernel
theorem dJ1_charAt_3b067_13 : decode cJ1_charAt_3b067 13 = .ok (.i2c, 1) := by decide +kernel
theorem dJ1_charAt_3b067_14 : decode cJ1_charAt_3b067 14 = .ok (.ireturn, 1) := by decide +kernel
theorem dJ1_canEncode_fc78d_0 : decode cJ1_canEncode_fc78d 0 = .ok (.iload_n 0, 1) := by decide +kernel
theorem dJ1_canEncode_fc78d_1 : decode cJ1_canEncode_fc78d 1 = .ok (.sipush 255, 3) := by decide +kernel
theorem dJ1_canEncode_fc78d_4 : decode cJ1_canEncode_fc78d 4 = .ok (.if_icmp .gt 7, 3) := by decide +kernel
theorem dJ1_canEncode_fc78d_7 : decode cJ1_canEncode_fc78d 7 = .ok (.iconst 1, 1) := by decide +kernel
theorem dJ1_canEncode_fc78d_8 : decode cJ1_canEncode_fc78d 8 = .ok (.goto 4, 3) := by decide +kernel
theorem dJ1_canEncode_fc78d_11 : decode cJ1_canEncode_fc78d 11 = .ok (.iconst 0, 1) := by decide +kernel
theorem dJ1_canEncode_fc78d_12 : decode cJ1_canEncode_fc78d 12 = .ok (.ireturn, 1) := by decide +kernel
theorem dJ1_inflate_0e8fd_0 : decode cJ1_inflate_0e8fd 0 = .ok (.aload_n 0, 1) := by decide +kernel
theorem dJ1_inflate_0e8fd_1 : decode cJ1_inflate_0e8fd 1 = .ok (.iload_n 1, 1) := by decide +kernel
theorem dJ1_inflate_0e8fd_2 : decode cJ1_inflate_0e8fd 2 = .ok (.aload_n 2, 1) := by decide +kernel
theorem dJ1_inflate_0e8fd_3 : decode cJ1_inflate_0e8fd 3 = .ok (.iload_n 3, 1) := by decide +kernel
theorem dJ1_inflate_0e8fd_4 : decode cJ1_inflate_0e8fd 4 = .ok (.iload 4, 2) := by decide +kernel
theorem dJ1_inflate_0e8fd_6 : decode cJ1_inflate_0e8fd 6 = .ok (.invokestatic 240, 3) := by decide +kernel
theorem dJ1_inflate_0e8fd_9 : decode cJ1_inflate_0e8fd 9 = .ok (.return_, 1) := by decide +kernel
theorem dJ2_newBytesFor_77867_0 : decode cJ2_newBytesFor_77867 0 = .ok (.iload_n 0, 1) := by decide +kernel
theorem dJ2_newBytesFor_77867_1 : decode cJ2_newBytesFor_77867 1 = .ok (.invokestatic 11, 3) := by decide +kernel
theorem dJ2_newBytesFor_77867_4 : decode cJ2_newBytesFor_77867 4 = .ok (.newarray .byte, 2) := by decide +kernel
theorem dJ2_newBytesFor_77867_6 : decode cJ2_newBytesFor_77867 6 = .ok (.areturn, 1) := by decide +kernel
theorem dJ2_newBytesLength_0f7a4_0 : decode cJ2_newBytesLength_0f7a4 0 = .ok (.iload_n 0, 1) := by decide +kernel
theorem dJ2_newBytesLength_0f7a4_1 : decode cJ2_newBytesLength_0f7a4 1 = .ok (.ifCond .ge 11, 3) := by decide +kernel
theorem dJ2_newBytesLength_0f7a4_4 : decode cJ2_newBytesLength_0f7a4 4 = .ok (.new 17, 3) := by decide +kernel
theorem dJ2_newBytesLength_0f7a4_7 : decode cJ2_newBytesLength_0f7a4 7 = .ok (.dup, 1) := by decide +kernel
theorem dJ2_newBytesLength_0f7a4_8 : decode cJ2_newBytesLength_0f7a4 8 = .ok (.invokespecial 19, 3) := by decide +kernel
theorem dJ2_newBytesLength_0f7a4_11 : decode cJ2_newBytesLength_0f7a4 11 = .ok (.athrow, 1) := by decide +kernel
theorem dJ2_newBytesLength_0f7a4_12 : decode cJ2_newBytesLength_0f7a4 12 = .ok (.iload_n 0, 1) := by decide +kernel
theorem dJ2_newBytesLength_0f7a4_13 : decode cJ2_newBytesLength_0f7a4 13 = .ok (.ldc 20, 2) := by decide +kernel
theorem dJ2_newBytesLength_0f7a4_15 : decode cJ2_newBytesLength_0f7a4 15 = .ok (.if_icmp .lt 40, 3) := by decide +kernel
theorem dJ2_newBytesLength_0f7a4_18 : decode cJ2_newBytesLength_0f7a4 18 = .ok (.new 21, 3) := by decide +kernel
theorem dJ2_newBytesLength_0f7a4_21 : decode cJ2_newBytesLength_0f7a4 21 = .ok (.dup, 1) := by decide +kernel
theorem dJ2_newBytesLength_0f7a4_22 : decode cJ2_newBytesLength_0f7a4 22 = .ok (.new 23, 3) := by decide +kernel
theorem dJ2_newBytesLength_0f7a4_25 : decode cJ2_newBytesLength_0f7a4 25 = .ok (.dup, 1) := by decide +kernel
theorem dJ2_newBytesLength_0f7a4_26 : decode cJ2_newBytesLength_0f7a4 26 = .ok (.invokespecial 25, 3) := by decide +kernel
theorem dJ2_newBytesLength_0f7a4_29 : decode cJ2_newBytesLength_0f7a4 29 = .ok (.ldc 26, 2) := by decide +kernel
theorem dJ2_newBytesLength_0f7a4_31 : decode cJ2_newBytesLength_0f7a4 31 = .ok (.invokevirtual 28, 3) := by decide +kernel
theorem dJ2_newBytesLength_0f7a4_34 : decode cJ2_newBytesLength_0f7a4 34 = .ok (.iload_n 0, 1) := by decide +kernel
theorem dJ2_newBytesLength_0f7a4_35 : decode cJ2_newBytesLength_0f7a4 35 = .ok (.invokevirtual 32, 3) := by decide +kernel
theorem dJ2_newBytesLength_0f7a4_38 : decode cJ2_newBytesLength_0f7a4 38 = .ok (.ldc 35, 2) := by decide +kernel
theorem dJ2_newBytesLength_0f7a4_40 : decode cJ2_newBytesLength_0f7a4 40 = .ok (.invokevirtual 28, 3) := by decide +kernel
theorem dJ2_newBytesLength_0f7a4_43 : decode cJ2_newBytesLength_0f7a4 43 = .ok (.ldc 20, 2) := by decide +kernel
theorem dJ2_newBytesLength_0f7a4_45 : decode cJ2_newBytesLength_0f7a4 45 = .ok (.invokevirtual 32, 3) := by decide +kernel
theorem dJ2_newBytesLength_0f7a4_48 : decode cJ2_newBytesLength_0f7a4 48 = .ok (.invokevirtual 37, 3) := by decide +kernel
theorem dJ2_newBytesLength_0f7a4_51 : decode cJ2_newBytesLength_0f7a4 51 = .ok (.invokespecial 41, 3) := by decide +kernel
theorem dJ2_newBytesLength_0f7a4_54 : decode cJ2_newBytesLength_0f7a4 54 = .ok (.athrow, 1) := by decide +kernel
theorem dJ2_newBytesLength_0f7a4_55 : decode cJ2_newBytesLength_0f7a4 55 = .ok (.iload_n 0, 1) := by decide +kernel
theorem dJ2_newBytesLength_0f7a4_56 : decode cJ2_newBytesLength_0f7a4 56 = .ok (.iconst 1, 1) := by decide +kernel
theorem dJ2_newBytesLength_0f7a4_57 : decode cJ2_newBytesLength_0f7a4 57 = .ok (.ishl, 1) := by decide +kernel
theorem dJ2_newBytesLength_0f7a4_58 : decode cJ2_newBytesLength_0f7a4 58 = .ok (.ireturn, 1) := by decide +kernel
theorem dJ2_putChar_b72d1_0 : decode cJ2_putChar_b72d1 0 = .ok (.getstatic 44, 3) := by decide +kernel
theorem dJ2_putChar_b72d1_3 : decode cJ2_putChar_b72d1 3 = .ok (.ifCond .ne 25, 3) := by decide +kernel
theorem dJ2_putChar_b72d1_6 : decode cJ2_putChar_b72d1 6 = .ok (.iload_n 1, 1) := by decide +kernel
theorem dJ2_putChar_b72d1_7 : decode cJ2_putChar_b72d1 7 = .ok (.ifCond .lt 11, 3) := by decide +kernel
theorem dJ2_putChar_b72d1_10 : decode cJ2_putChar_b72d1 10 = .ok (.iload_n 1, 1) := by decide +kernel
theorem dJ2_putChar_b72d1_11 : decode cJ2_putChar_b72d1 11 = .ok (.aload_n 0, 1) := by decide +kernel
theorem dJ2_putChar_b72d1_12 : decode cJ2_putChar_b72d1 12 = .ok (.invokestatic 48, 3) := by decide +kernel
theorem dJ2_putChar_b72d1_15 : decode cJ2_putChar_b72d1 15 = .ok (.if_icmp .lt 13, 3) := by decide +kernel
theorem dJ2_putChar_b72d1_18 : decode cJ2_putChar_b72d1 18 = .ok (.new 52, 3) := by decide +kernel
theorem dJ2_putChar_b72d1_21 : decode cJ2_putChar_b72d1 21 = .ok (.dup, 1) := by decide +kernel
theorem dJ2_putChar_b72d1_22 : decode cJ2_putChar_b72d1 22 = .ok (.ldc 54, 2) := by decide +kernel
theorem dJ2_putChar_b72d1_24 : decode cJ2_putChar_b72d1 24 = .ok (.invokespecial 56, 3) := by decide +kernel
theorem dJ2_putChar_b72d1_27 : decode cJ2_putChar_b72d1 27 = .ok (.athrow, 1) := by decide +kernel
theorem dJ2_putChar_b72d1_28 : decode cJ2_putChar_b72d1 28 = .ok (.iload_n 1, 1) := by decide +kernel
theorem dJ2_putChar_b72d1_29 : decode cJ2_putChar_b72d1 29 = .ok (.iconst 1, 1) := by decide +kernel
theorem dJ2_putChar_b72d1_30 : decode cJ2_putChar_b72d1 30 = .ok (.ishl, 1) := by decide +kernel
theorem dJ2_putChar_b72d1_31 : decode cJ2_putChar_b72d1 31 = .ok (.istore_n 1, 1) := by decide +kernel
theorem dJ2_putChar_b72d1_32 : decode cJ2_putChar_b72d1 32 = .ok (.aload_n 0, 1) := by decide +kernel
theorem dJ2_putChar_b72d1_33 : decode cJ2_putChar_b72d1 33 = .ok (.iload_n 1, 1) := by decide +kernel
theorem dJ2_putChar_b72d1_34 : decode cJ2_putChar_b72d1 34 = .ok (.iinc 1 1, 3) := by decide +kernel
theorem dJ2_putChar_b72d1_37 : decode cJ2_putChar_b72d1 37 = .ok (.iload_n 2, 1) := by decide +kernel
theorem dJ2_putChar_b72d1_38 : decode cJ2_putChar_b72d1 38 = .ok (.getstatic 59, 3) := by decide +kernel
theorem dJ2_putChar_b72d1_41 : decode cJ2_putChar_b72d1 41 = .ok (.ishr, 1) := by decide +kernel
theorem dJ2_putChar_b72d1_42 : decode cJ2_putChar_b72d1 42 = .ok (.i2b, 1) := by decide +kernel
theorem dJ2_putChar_b72d1_43 : decode cJ2_putChar_b72d1 43 = .ok (.bastore, 1) := by decide +kernel
theorem dJ2_putChar_b72d1_44 : decode cJ2_putChar_b72d1 44 = .ok (.aload_n 0, 1) := by decide +kernel
theorem dJ2_putChar_b72d1_45 : decode cJ2_putChar_b72d1 45 = .ok (.iload_n 1, 1) := by decide +kernel
theorem dJ2_putChar_b72d1_46 : decode cJ2_putChar_b72d1 46 = .ok (.iload_n 2, 1) := by decide +kernel
theorem dJ2_putChar_b72d1_47 : decode cJ2_putChar_b72d1 47 = .ok (.getstatic 63, 3) := by decide +kernel
theorem dJ2_putChar_b72d1_50 : decode cJ2_putChar_b72d1 50 = .ok (.ishr, 1) := by decide +kernel
theorem dJ2_putChar_b72d1_51 : decode cJ2_putChar_b72d1 51 = .ok (.i2b, 1) := by decide +kernel
theorem dJ2_putChar_b72d1_52 : decode cJ2_putChar_b72d1 52 = .ok (.bastore, 1) := by decide +kernel
theorem dJ2_putChar_b72d1_53 : decode cJ2_putChar_b72d1 53 = .ok (.return_, 1) := by decide +kernel
theorem dJ2_getChar_3b067_0 : decode cJ2_getChar_3b067 0 = .ok (.getstatic 44, 3) := by decide +kernel
theorem dJ2_getChar_3b067_3 : decode cJ2_getChar_3b067 3 = .ok (.ifCond .ne 25, 3) := by decide +kernel
theorem dJ2_getChar_3b067_6 : decode cJ2_getChar_3b067 6 = .ok (.iload_n 1, 1) := by decide +kernel
theorem dJ2_getChar_3b067_7 : decode cJ2_getChar_3b067 7 = .ok (.ifCond .lt 11, 3) := by decide +kernel
theorem dJ2_getChar_3b067_10 : decode cJ2_getChar_3b067 10 = .ok (.iload_n 1, 1) := by decide +kernel
theorem dJ2_getChar_3b067_11 : decode cJ2_getChar_3b067 11 = .ok (.aload_n 0, 1) := by decide +kernel
theorem dJ2_getChar_3b067_12 : decode cJ2_getChar_3b067 12 = .ok (.invokestatic 48, 3) := by decide +kernel
theorem dJ2_getChar_3b067_15 : decode cJ2_getChar_3b067 15 = .ok (.if_icmp .lt 13, 3) := by decide +kernel
theorem dJ2_getChar_3b067_18 : decode cJ2_getChar_3b067 18 = .ok (.new 52, 3) := by decide +kernel
theorem dJ2_getChar_3b067_21 : decode cJ2_getChar_3b067 21 = .ok (.dup, 1) := by decide +kernel
theorem dJ2_getChar_3b067_22 : decode cJ2_getChar_3b067 22 = .ok (.ldc 54, 2) := by decide +kernel
theorem dJ2_getChar_3b067_24 : decode cJ2_getChar_3b067 24 = .ok (.invokespecial 56, 3) := by decide +kernel
theorem dJ2_getChar_3b067_27 : decode cJ2_getChar_3b067 27 = .ok (.athrow, 1) := by decide +kernel
theorem dJ2_getChar_3b067_28 : decode cJ2_getChar_3b067 28 = .ok (.iload_n 1, 1) := by decide +kernel
theorem dJ2_getChar_3b067_29 : decode cJ2_getChar_3b067 29 = .ok (.iconst 1, 1) := by decide +kernel
theorem dJ2_getChar_3b067_30 : decode cJ2_getChar_3b067 30 = .ok (.ishl, 1) := by decide +kernel
theorem dJ2_getChar_3b067_31 : decode cJ2_getChar_3b067 31 = .ok (.istore_n 1, 1) := by decide +kernel
theorem dJ2_getChar_3b067_32 : decode cJ2_getChar_3b067 32 = .ok (.aload_n 0, 1) := by decide +kernel
theorem dJ2_getChar_3b067_33 : decode cJ2_getChar_3b067 33 = .ok (.iload_n 1, 1) := by decide +kernel
theorem dJ2_getChar_3b067_34 : decode cJ2_getChar_3b067 34 = .ok (.iinc 1 1, 3) := by decide +kernel
theorem dJ2_getChar_3b067_37 : decode cJ2_getChar_3b067 37 = .ok (.baload, 1) := by decide +kernel
theorem dJ2_getChar_3b067_38 : decode cJ2_getChar_3b067 38 = .ok (.sipush 255, 3) := by decide +kernel
theorem dJ2_getChar_3b067_41 : decode cJ2_getChar_3b067 41 = .ok (.iand, 1) := by decide +kernel
theorem dJ2_getChar_3b067_42 : decode cJ2_getChar_3b067 42 = .ok (.getstatic 59, 3) := by decide +kernel
theorem dJ2_getChar_3b067_45 : decode cJ2_getChar_3b067 45 = .ok (.ishl, 1) := by decide +kernel
theorem dJ2_getChar_3b067_46 : decode cJ2_getChar_3b067 46 = .ok (.aload_n 0, 1) := by decide +kernel
theorem dJ2_getChar_3b067_47 : decode cJ2_getChar_3b067 47 = .ok (.iload_n 1, 1) := by decide +kernel
theorem dJ2_getChar_3b067_48 : decode cJ2_getChar_3b067 48 = .ok (.baload, 1) := by decide +kernel
theorem dJ2_getChar_3b067_49 : decode cJ2_getChar_3b067 49 = .ok (.sipush 255, 3) := by decide +kernel
theorem dJ2_getChar_3b067_52 : decode cJ2_getChar_3b067 52 = .ok (.iand, 1) := by decide +kernel
theorem dJ2_getChar_3b067_53 : decode cJ2_getChar_3b067 53 = .ok (.getstatic 63, 3) := by decide +kernel
theorem dJ2_getChar_3b067_56 : decode cJ2_getChar_3b067 56 = .ok (.ishl, 1) := by decide +kernel
theorem dJ2_getChar_3b067_57 : decode cJ2_getChar_3b067 57 = .ok (.ior, 1) := by decide +kernel
theorem dJ2_getChar_3b067_58 : decode cJ2_getChar_3b067 58 = .ok (.i2c, 1) := by decide +kernel
theorem dJ2_getChar_3b067_59 : decode cJ2_getChar_3b067 59 = .ok (.ireturn, 1) := by decide +kernel
theorem dJ2_length_9d52b_0 : decode cJ2_length_9d52b 0 = .ok (.aload_n 0, 1) := by decide +kernel
theorem dJ2_length_9d52b_1 : decode cJ2_length_9d52b 1 = .ok (.arraylength, 1) := by decide +kernel
theorem dJ2_length_9d52b_2 : decode cJ2_length_9d52b 2 = .ok (.iconst 1, 1) := by decide +kernel
theorem dJ2_length_9d52b_3 : decode cJ2_length_9d52b 3 = .ok (.ishr, 1) := by decide +kernel
theorem dJ2_length_9d52b_4 : decode cJ2_length_9d52b 4 = .ok (.ireturn, 1) := by decide +kernel
theorem dJ2_coderFromArrayLen_85cad_0 : decode cJ2_coderFromArrayLen_85cad 0 = .ok (.iload_n 1, 1) := by decide +kernel
theorem dJ2_coderFromArrayLen_85cad_1 : decode cJ2_coderFromArrayLen_85cad 1 = .ok (.aload_n 0, 1) := by decide +kernel
theorem dJ2_coderFromArrayLen_85cad_2 : decode cJ2_coderFromArrayLen_85cad 2 = .ok (.arraylength, 1) := by decide +kernel
theorem dJ2_coderFromArrayLen_85cad_3 : decode cJ2_coderFromArrayLen_85cad 3 = .ok (.isub, 1) := by decide +kernel
theorem dJ2_coderFromArrayLen_85cad_4 : decode cJ2_coderFromArrayLen_85cad 4 = .ok (.bipush 31, 2) := by decide +kernel
theorem dJ2_coderFromArrayLen_85cad_6 : decode cJ2_coderFromArrayLen_85cad 6 = .ok (.iushr, 1) := by decide +kernel
theorem dJ2_coderFromArrayLen_85cad_7 : decode cJ2_coderFromArrayLen_85cad 7 = .ok (.i2b, 1) := by decide +kernel
theorem dJ2_coderFromArrayLen_85cad_8 : decode cJ2_coderFromArrayLen_85cad 8 = .ok (.ireturn, 1) := by decide +kernel
theorem dJ2_compress_39247_0 : decode cJ2_compress_39247 0 = .ok (.iload_n 2, 1) := by decide +kernel
theorem dJ2_compress_39247_1 : decode cJ2_compress_39247 1 = .ok (.newarray .byte, 2) := by decide +kernel
theorem dJ2_compress_39247_3 : decode cJ2_compress_39247 3 = .ok (.astore_n 3, 1) := by decide +kernel
theorem dJ2_compress_39247_4 : decode cJ2_compress_39247 4 = .ok (.aload_n 0, 1) := by decide +kernel
theorem dJ2_compress_39247_5 : decode cJ2_compress_39247 5 = .ok (.iload_n 1, 1) := by decide +kernel
theorem dJ2_compress_39247_6 : decode cJ2_compress_39247 6 = .ok (.aload_n 3, 1) := by decide +kernel
theorem dJ2_compress_39247_7 : decode cJ2_compress_39247 7 = .ok (.iconst 0, 1) := by decide +kernel
theorem dJ2_compress_39247_8 : decode cJ2_compress_39247 8 = .ok (.iload_n 2, 1) := by decide +kernel
theorem dJ2_compress_39247_9 : decode cJ2_compress_39247 9 = .ok (.invokestatic 123, 3) := by decide +kernel
theorem dJ2_compress_39247_12 : decode cJ2_compress_39247 12 = .ok (.istore 4, 2) := by decide +kernel
theorem dJ2_compress_39247_14 : decode cJ2_compress_39247 14 = .ok (.iload 4, 2) := by decide +kernel
theorem dJ2_compress_39247_16 : decode cJ2_compress_39247 16 = .ok (.iload_n 2, 1) := by decide +kernel
theorem dJ2_compress_39247_17 : decode cJ2_compress_39247 17 = .ok (.if_icmp .eq 47, 3) := by decide +kernel
theorem dJ2_compress_39247_20 : decode cJ2_compress_39247 20 = .ok (.aload_n 0, 1) := by decide +kernel
theorem dJ2_compress_39247_21 : decode cJ2_compress_39247 21 = .ok (.iload_n 1, 1) := by decide +kernel
theorem dJ2_compress_39247_22 : decode cJ2_compress_39247 22 = .ok (.iconst 1, 1) := by decide +kernel
theorem dJ2_compress_39247_23 : decode cJ2_compress_39247 23 = .ok (.ishl, 1) := by decide +kernel
theorem dJ2_compress_39247_24 : decode cJ2_compress_39247 24 = .ok (.iload_n 1, 1) := by decide +kernel
theorem dJ2_compress_39247_25 : decode cJ2_compress_39247 25 = .ok (.iload_n 2, 1) := by decide +kernel
theorem dJ2_compress_39247_26 : decode cJ2_compress_39247 26 = .ok (.iadd, 1) := by decide +kernel
theorem dJ2_compress_39247_27 : decode cJ2_compress_39247 27 = .ok (.invokestatic 11, 3) := by decide +kernel
theorem dJ2_compress_39247_30 : decode cJ2_compress_39247 30 = .ok (.invokestatic 126, 3) := by decide +kernel
theorem dJ2_compress_39247_33 : decode cJ2_compress_39247 33 = .ok (.astore 5, 2) := by decide +kernel
theorem dJ2_compress_39247_35 : decode cJ2_compress_39247 35 = .ok (.aload 5, 2) := by decide +kernel
theorem dJ2_compress_39247_37 : decode cJ2_compress_39247 37 = .ok (.iload 4, 2) := by decide +kernel
theorem dJ2_compress_39247_39 : decode cJ2_compress_39247 39 = .ok (.invokestatic 71, 3) := by decide +kernel
theorem dJ2_compress_39247_42 : decode cJ2_compress_39247 42 = .ok (.sipush 255, 3) := by decide +kernel
theorem dJ2_compress_39247_45 : decode cJ2_compress_39247 45 = .ok (.if_icmp .gt 16, 3) := by decide +kernel
theorem dJ2_compress_39247_48 : decode cJ2_compress_39247 48 = .ok (.aload 5, 2) := by decide +kernel
theorem dJ2_compress_39247_50 : decode cJ2_compress_39247 50 = .ok (.iconst 0, 1) := by decide +kernel
theorem dJ2_compress_39247_51 : decode cJ2_compress_39247 51 = .ok (.aload_n 3, 1) := by decide +kernel
theorem dJ2_compress_39247_52 : decode cJ2_compress_39247 52 = .ok (.iconst 0, 1) := by decide +kernel
theorem dJ2_compress_39247_53 : decode cJ2_compress_39247 53 = .ok (.iload_n 2, 1) := by decide +kernel
theorem dJ2_compress_39247_54 : decode cJ2_compress_39247 54 = .ok (.invokestatic 123, 3) := by decide +kernel
theorem dJ2_compress_39247_57 : decode cJ2_compress_39247 57 = .ok (.iload_n 2, 1) := by decide +kernel
theorem dJ2_compress_39247_58 : decode cJ2_compress_39247 58 = .ok (.if_icmp .eq 6, 3) := by decide +kernel
theorem dJ2_compress_39247_61 : decode cJ2_compress_39247 61 = .ok (.aload 5, 2) := by decide +kernel
theorem dJ2_compress_39247_63 : decode cJ2_compress_39247 63 = .ok (.areturn, 1) := by decide +kernel
theorem dJ2_compress_39247_64 : decode cJ2_compress_39247 64 = .ok (.aload_n 3, 1) := by decide +kernel
theorem dJ2_compress_39247_65 : decode cJ2_compress_39247 65 = .ok (.areturn, 1) := by decide +kernel
theorem dJ2_compress_5af95_0 : decode cJ2_compress_5af95 0 = .ok (.iload_n 1, 1) := by decide +kernel
theorem dJ2_compress_5af95_1 : decode cJ2_compress_5af95 1 = .ok (.iload 4, 2) := by decide +kernel
theorem dJ2_compress_5af95_3 : decode cJ2_compress_5af95 3 = .ok (.aload_n 0, 1) := by decide +kernel
theorem dJ2_compress_5af95_4 : decode cJ2_compress_5af95 4 = .ok (.invokestatic 173, 3) := by decide +kernel
theorem dJ2_compress_5af95_7 : decode cJ2_compress_5af95 7 = .ok (.iconst 0, 1) := by decide +kernel
theorem dJ2_compress_5af95_8 : decode cJ2_compress_5af95 8 = .ok (.istore 5, 2) := by decide +kernel
theorem dJ2_compress_5af95_10 : decode cJ2_compress_5af95 10 = .ok (.iload 5, 2) := by decide +kernel
theorem dJ2_compress_5af95_12 : decode cJ2_compress_5af95 12 = .ok (.iload 4, 2) := by decide +kernel
theorem dJ2_compress_5af95_14 : decode cJ2_compress_5af95 14 = .ok (.if_icmp .ge 39, 3) := by decide +kernel
theorem dJ2_compress_5af95_17 : decode cJ2_compress_5af95 17 = .ok (.aload_n 0, 1) := by decide +kernel
theorem dJ2_compress_5af95_18 : decode cJ2_compress_5af95 18 = .ok (.iload_n 1, 1) := by decide +kernel
theorem dJ2_compress_5af95_19 : decode cJ2_compress_5af95 19 = .ok (.invokestatic 71, 3) := by decide +kernel
theorem dJ2_compress_5af95_22 : decode cJ2_compress_5af95 22 = .ok (.istore 6, 2) := by decide +kernel
theorem dJ2_compress_5af95_24 : decode cJ2_compress_5af95 24 = .ok (.iload 6, 2) := by decide +kernel
theorem dJ2_compress_5af95_26 : decode cJ2_compress_5af95 26 = .ok (.sipush 255, 3) := by decide +kernel
theorem dJ2_compress_5af95_29 : decode cJ2_compress_5af95 29 = .ok (.if_icmp .le 6, 3) := by decide +kernel
theorem dJ2_compress_5af95_32 : decode cJ2_compress_5af95 32 = .ok (.iload 5, 2) := by decide +kernel
theorem dJ2_compress_5af95_34 : decode cJ2_compress_5af95 34 = .ok (.ireturn, 1) := by decide +kernel
theorem dJ2_compress_5af95_35 : decode cJ2_compress_5af95 35 = .ok (.aload_n 2, 1) := by decide +kernel
theorem dJ2_compress_5af95_36 : decode cJ2_compress_5af95 36 = .ok (.iload_n 3, 1) := by decide +kernel
theorem dJ2_compress_5af95_37 : decode cJ2_compress_5af95 37 = .ok (.iload 6, 2) := by decide +kernel
theorem dJ2_compress_5af95_39 : decode cJ2_compress_5af95 39 = .ok (.i2b, 1) := by decide +kernel
theorem dJ2_compress_5af95_40 : decode cJ2_compress_5af95 40 = .ok (.bastore, 1) := by decide +kernel
theorem dJ2_compress_5af95_41 : decode cJ2_compress_5af95 41 = .ok (.iinc 1 1, 3) := by decide +kernel
theorem dJ2_compress_5af95_44 : decode cJ2_compress_5af95 44 = .ok (.iinc 3 1, 3) := by decide +kernel
theorem dJ2_compress_5af95_47 : decode cJ2_compress_5af95 47 = .ok (.iinc 5 1, 3) := by decide +kernel
theorem dJ2_compress_5af95_50 : decode cJ2_compress_5af95 50 = .ok (.goto (-40), 3) := by decide +kernel
theorem dJ2_compress_5af95_53 : decode cJ2_compress_5af95 53 = .ok (.iload 4, 2) := by decide +kernel
theorem dJ2_compress_5af95_55 : decode cJ2_compress_5af95 55 = .ok (.ireturn, 1) := by decide +kernel
theorem dJ2_putCharSB_b72d1_0 : decode cJ2_putCharSB_b72d1 0 = .ok (.iload_n 1, 1) := by decide +kernel
theorem dJ2_putCharSB_b72d1_1 : decode cJ2_putCharSB_b72d1 1 = .ok (.aload_n 0, 1) := by decide +kernel
theorem dJ2_putCharSB_b72d1_2 : decode cJ2_putCharSB_b72d1 2 = .ok (.invokestatic 67, 3) := by decide +kernel
theorem dJ2_putCharSB_b72d1_5 : decode cJ2_putCharSB_b72d1 5 = .ok (.aload_n 0, 1) := by decide +kernel
theorem dJ2_putCharSB_b72d1_6 : decode cJ2_putCharSB_b72d1 6 = .ok (.iload_n 1, 1) := by decide +kernel
theorem dJ2_putCharSB_b72d1_7 : decode cJ2_putCharSB_b72d1 7 = .ok (.iload_n 2, 1) := by decide +kernel
theorem dJ2_putCharSB_b72d1_8 : decode cJ2_putCharSB_b72d1 8 = .ok (.invokestatic 111, 3) := by decide +kernel
theorem dJ2_putCharSB_b72d1_11 : decode cJ2_putCharSB_b72d1 11 = .ok (.return_, 1) := by decide +kernel
theorem dJ2_getChars_46870_0 : decode cJ2_getChars_46870 0 = .ok (.iload_n 1, 1) := by decide +kernel
theorem dJ2_getChars_46870_1 : decode cJ2_getChars_46870 1 = .ok (.iload_n 2, 1) := by decide +kernel
theorem dJ2_getChars_46870_2 : decode cJ2_getChars_46870 2 = .ok (.aload_n 3, 1) := by decide +kernel
theorem dJ2_getChars_46870_3 : decode cJ2_getChars_46870 3 = .ok (.invokestatic 96, 3) := by decide +kernel
theorem dJ2_getChars_46870_6 : decode cJ2_getChars_46870 6 = .ok (.iload_n 0, 1) := by decide +kernel
theorem dJ2_getChars_46870_7 : decode cJ2_getChars_46870 7 = .ok (.iload_n 2, 1) := by decide +kernel
theorem dJ2_getChars_46870_8 : decode cJ2_getChars_46870 8 = .ok (.aload_n 3, 1) := by decide +kernel
theorem dJ2_getChars_46870_9 : decode cJ2_getChars_46870 9 = .ok (.invokestatic 393, 3) := by decide +kernel
theorem dJ2_getChars_46870_12 : decode cJ2_getChars_46870 12 = .ok (.istore 4, 2) := by decide +kernel
theorem dJ2_getChars_46870_14 : decode cJ2_getChars_46870 14 = .ok (.getstatic 44, 3) := by decide +kernel
theorem dJ2_getChars_46870_17 : decode cJ2_getChars_46870 17 = .ok (.ifCond .ne 17, 3) := by decide +kernel
theorem dJ2_getChars_46870_20 : decode cJ2_getChars_46870 20 = .ok (.iload_n 1, 1) := by decide +kernel
theorem dJ2_getChars_46870_21 : decode cJ2_getChars_46870 21 = .ok (.iload 4, 2) := by decide +kernel
theorem dJ2_getChars_46870_23 : decode cJ2_getChars_46870 23 = .ok (.if_icmp .eq 11, 3) := by decide +kernel
theorem dJ2_getChars_46870_26 : decode cJ2_getChars_46870 26 = .ok (.new 52, 3) := by decide +kernel
theorem dJ2_getChars_46870_29 : decode cJ2_getChars_46870 29 = .ok (.dup, 1) := by decide +kernel
theorem dJ2_getChars_46870_30 : decode cJ2_getChars_46870 30 = .ok (.invokespecial 66, 3) := by decide +kernel
theorem dJ2_getChars_46870_33 : decode cJ2_getChars_46870 33 = .ok (.athrow, 1) := by decide +kernel
theorem dJ2_getChars_46870_34 : decode cJ2_getChars_46870 34 = .ok (.iload 4, 2) := by decide +kernel
theorem dJ2_getChars_46870_36 : decode cJ2_getChars_46870 36 = .ok (.ireturn, 1) := by decide +kernel
theorem dJ2_putCharsAt_cd4e5_0 : decode cJ2_putCharsAt_cd4e5 0 = .ok (.iload_n 1, 1) := by decide +kernel
theorem dJ2_putCharsAt_cd4e5_1 : decode cJ2_putCharsAt_cd4e5 1 = .ok (.iconst 4, 1) := by decide +kernel
theorem dJ2_putCharsAt_cd4e5_2 : decode cJ2_putCharsAt_cd4e5 2 = .ok (.iadd, 1) := by decide +kernel
theorem dJ2_putCharsAt_cd4e5_3 : decode cJ2_putCharsAt_cd4e5 3 = .ok (.istore 6, 2) := by decide +kernel
theorem dJ2_putCharsAt_cd4e5_5 : decode cJ2_putCharsAt_cd4e5 5 = .ok (.iload_n 1, 1) := by decide +kernel
theorem dJ2_putCharsAt_cd4e5_6 : decode cJ2_putCharsAt_cd4e5 6 = .ok (.iload 6, 2) := by decide +kernel
theorem dJ2_putCharsAt_cd4e5_8 : decode cJ2_putCharsAt_cd4e5 8 = .ok (.aload_n 0, 1) := by decide +kernel
theorem dJ2_putCharsAt_cd4e5_9 : decode cJ2_putCharsAt_cd4e5 9 = .ok (.invokestatic 96, 3) := by decide +kernel
theorem dJ2_putCharsAt_cd4e5_12 : decode cJ2_putCharsAt_cd4e5 12 = .ok (.aload_n 0, 1) := by decide +kernel
theorem dJ2_putCharsAt_cd4e5_13 : decode cJ2_putCharsAt_cd4e5 13 = .ok (.iload_n 1, 1) := by decide +kernel
theorem dJ2_putCharsAt_cd4e5_14 : decode cJ2_putCharsAt_cd4e5 14 = .ok (.iinc 1 1, 3) := by decide +kernel
theorem dJ2_putCharsAt_cd4e5_17 : decode cJ2_putCharsAt_cd4e5 17 = .ok (.iload_n 2, 1) := by decide +kernel
theorem dJ2_putCharsAt_cd4e5_18 : decode cJ2_putCharsAt_cd4e5 18 = .ok (.invokestatic 111, 3) := by decide +kernel
theorem dJ2_putCharsAt_cd4e5_21 : decode cJ2_putCharsAt_cd4e5 21 = .ok (.aload_n 0, 1) := by decide +kernel
theorem dJ2_putCharsAt_cd4e5_22 : decode cJ2_putCharsAt_cd4e5 22 = .ok (.iload_n 1, 1) := by decide +kernel
theorem dJ2_putCharsAt_cd4e5_23 : decode cJ2_putCharsAt_cd4e5 23 = .ok (.iinc 1 1, 3) := by decide +kernel
theorem dJ2_putCharsAt_cd4e5_26 : decode cJ2_putCharsAt_cd4e5 26 = .ok (.iload_n 3, 1) := by decide +kernel
theorem dJ2_putCharsAt_cd4e5_27 : decode cJ2_putCharsAt_cd4e5 27 = .ok (.invokestatic 111, 3) := by decide +kernel
theorem dJ2_putCharsAt_cd4e5_30 : decode cJ2_putCharsAt_cd4e5 30 = .ok (.aload_n 0, 1) := by decide +kernel
theorem dJ2_putCharsAt_cd4e5_31 : decode cJ2_putCharsAt_cd4e5 31 = .ok (.iload_n 1, 1) := by decide +kernel
theorem dJ2_putCharsAt_cd4e5_32 : decode cJ2_putCharsAt_cd4e5 32 = .ok (.iinc 1 1, 3) := by decide +kernel
theorem dJ2_putCharsAt_cd4e5_35 : decode cJ2_putCharsAt_cd4e5 35 = .ok (.iload 4, 2) := by decide +kernel
theorem dJ2_putCharsAt_cd4e5_37 : decode cJ2_putCharsAt_cd4e5 37 = .ok (.invokestatic 111, 3) := by decide +kernel
theorem dJ2_putCharsAt_cd4e5_40 : decode cJ2_putCharsAt_cd4e5 40 = .ok (.aload_n 0, 1) := by decide +kernel
theorem dJ2_putCharsAt_cd4e5_41 : decode cJ2_putCharsAt_cd4e5 41 = .ok (.iload_n 1, 1) := by decide +kernel
theorem dJ2_putCharsAt_cd4e5_42 : decode cJ2_putCharsAt_cd4e5 42 = .ok (.iinc 1 1, 3) := by decide +kernel
theorem dJ2_putCharsAt_cd4e5_45 : decode cJ2_putCharsAt_cd4e5 45 = .ok (.iload 5, 2) := by decide +kernel
theorem dJ2_putCharsAt_cd4e5_47 : decode cJ2_putCharsAt_cd4e5 47 = .ok (.invokestatic 111, 3) := by decide +kernel
theorem dJ2_putCharsAt_cd4e5_50 : decode cJ2_putCharsAt_cd4e5 50 = .ok (.getstatic 44, 3) := by decide +kernel
theorem dJ2_putCharsAt_cd4e5_53 : decode cJ2_putCharsAt_cd4e5 53 = .ok (.ifCond .ne 17, 3) := by decide +kernel
theorem dJ2_putCharsAt_cd4e5_56 : decode cJ2_putCharsAt_cd4e5 56 = .ok (.iload_n 1, 1) := by decide +kernel
theorem dJ2_putCharsAt_cd4e5_57 : decode cJ2_putCharsAt_cd4e5 57 = .ok (.iload 6, 2) := by decide +kernel
theorem dJ2_putCharsAt_cd4e5_59 : decode cJ2_putCharsAt_cd4e5 59 = .ok (.if_icmp .eq 11, 3) := by decide +kernel
theorem dJ2_putCharsAt_cd4e5_62 : decode cJ2_putCharsAt_cd4e5 62 = .ok (.new 52, 3) := by decide +kernel
theorem dJ2_putCharsAt_cd4e5_65 : decode cJ2_putCharsAt_cd4e5 65 = .ok (.dup, 1) := by decide +kernel
theorem dJ2_putCharsAt_cd4e5_66 : decode cJ2_putCharsAt_cd4e5 66 = .ok (.invokespecial 66, 3) := by decide +kernel
theorem dJ2_putCharsAt_cd4e5_69 : decode cJ2_putCharsAt_cd4e5 69 = .ok (.athrow, 1) := by decide +kernel
theorem dJ2_putCharsAt_cd4e5_70 : decode cJ2_putCharsAt_cd4e5 70 = .ok (.iload 6, 2) := by decide +kernel
theorem dJ2_putCharsAt_cd4e5_72 : decode cJ2_putCharsAt_cd4e5 72 = .ok (.ireturn, 1) := by decide +kernel
theorem dJ2_charAt_3b067_0 : decode cJ2_charAt_3b067 0 = .ok (.iload_n 1, 1) := by decide +kernel
theorem dJ2_charAt_3b067_1 : decode cJ2_charAt_3b067 1 = .ok (.aload_n 0, 1) := by decide +kernel
theorem dJ2_charAt_3b067_2 : decode cJ2_charAt_3b067 2 = .ok (.invokestatic 67, 3) := by decide +kernel
theorem dJ2_charAt_3b067_5 : decode cJ2_charAt_3b067 5 = .ok (.aload_n 0, 1) := by decide +kernel
theorem dJ2_charAt_3b067_6 : decode cJ2_charAt_3b067 6 = .ok (.iload_n 1, 1) := by decide +kernel
theorem dJ2_charAt_3b067_7 : decode cJ2_charAt_3b067 7 = .ok (.invokestatic 71, 3) := by decide +kernel
theorem dJ2_charAt_3b067_10 : decode cJ2_charAt_3b067 10 = .ok (.ireturn, 1) := by decide +kernel
theorem dJ2_inflate_0e8fd_0 : decode cJ2_inflate_0e8fd 0 = .ok (.iload_n 3, 1) := by decide +kernel
theorem dJ2_inflate_0e8fd_1 : decode cJ2_inflate_0e8fd 1 = .ok (.iload 4, 2) := by decide +kernel
theorem dJ2_inflate_0e8fd_3 : decode cJ2_inflate_0e8fd 3 = .ok (.aload_n 2, 1) := by decide +kernel
theorem dJ2_inflate_0e8fd_4 : decode cJ2_inflate_0e8fd 4 = .ok (.invokestatic 173, 3) := by decide +kernel
theorem dJ2_inflate_0e8fd_7 : decode cJ2_inflate_0e8fd 7 = .ok (.iconst 0, 1) := by decide +kernel
theorem dJ2_inflate_0e8fd_8 : decode cJ2_inflate_0e8fd 8 = .ok (.istore 5, 2) := by decide +kernel
theorem dJ2_inflate_0e8fd_10 : decode cJ2_inflate_0e8fd 10 = .ok (.iload 5, 2) := by decide +kernel
theorem dJ2_inflate_0e8fd_12 : decode cJ2_inflate_0e8fd 12 = .ok (.iload 4, 2) := by decide +kernel
theorem dJ2_inflate_0e8fd_14 : decode cJ2_inflate_0e8fd 14 = .ok (.if_icmp .ge 27, 3) := by decide +kernel
theorem dJ2_inflate_0e8fd_17 : decode cJ2_inflate_0e8fd 17 = .ok (.aload_n 2, 1) := by decide +kernel
theorem dJ2_inflate_0e8fd_18 : decode cJ2_inflate_0e8fd 18 = .ok (.iload_n 3, 1) := by decide +kernel
theorem dJ2_inflate_0e8fd_19 : decode cJ2_inflate_0e8fd 19 = .ok (.iinc 3 1, 3) := by decide +kernel
theorem dJ2_inflate_0e8fd_22 : decode cJ2_inflate_0e8fd 22 = .ok (.aload_n 0, 1) := by decide +kernel
theorem dJ2_inflate_0e8fd_23 : decode cJ2_inflate_0e8fd 23 = .ok (.iload_n 1, 1) := by decide +kernel
theorem dJ2_inflate_0e8fd_24 : decode cJ2_inflate_0e8fd 24 = .ok (.iinc 1 1, 3) := by decide +kernel
theorem dJ2_inflate_0e8fd_27 : decode cJ2_inflate_0e8fd 27 = .ok (.baload, 1) := by decide +kernel
theorem dJ2_inflate_0e8fd_28 : decode cJ2_inflate_0e8fd 28 = .ok (.sipush 255, 3) := by decide +kernel
theorem dJ2_inflate_0e8fd_31 : decode cJ2_inflate_0e8fd 31 = .ok (.iand, 1) := by decide +kernel
theorem dJ2_inflate_0e8fd_32 : decode cJ2_inflate_0e8fd 32 = .ok (.invokestatic 111, 3) := by decide +kernel
theorem dJ2_inflate_0e8fd_35 : decode cJ2_inflate_0e8fd 35 = .ok (.iinc 5 1, 3) := by decide +kernel
theorem dJ2_inflate_0e8fd_38 : decode cJ2_inflate_0e8fd 38 = .ok (.goto (-28), 3) := by decide +kernel
theorem dJ2_inflate_0e8fd_41 : decode cJ2_inflate_0e8fd 41 = .ok (.return_, 1) := by decide +kernel
theorem dJ2_getChars_ba4f3_0 : decode cJ2_getChars_ba4f3 0 = .ok (.iload_n 1, 1) := by decide +kernel
theorem dJ2_getChars_ba4f3_1 : decode cJ2_getChars_ba4f3 1 = .ok (.istore 5, 2) := by decide +kernel
theorem dJ2_getChars_ba4f3_3 : decode cJ2_getChars_ba4f3 3 = .ok (.iload_n 0, 1) := by decide +kernel
theorem dJ2_getChars_ba4f3_4 : decode cJ2_getChars_ba4f3 4 = .ok (.ifCond .ge 7, 3) := by decide +kernel
theorem dJ2_getChars_ba4f3_7 : decode cJ2_getChars_ba4f3 7 = .ok (.iconst 1, 1) := by decide +kernel
theorem dJ2_getChars_ba4f3_8 : decode cJ2_getChars_ba4f3 8 = .ok (.goto 4, 3) := by decide +kernel
theorem dJ2_getChars_ba4f3_11 : decode cJ2_getChars_ba4f3 11 = .ok (.iconst 0, 1) := by decide +kernel
theorem dJ2_getChars_ba4f3_12 : decode cJ2_getChars_ba4f3 12 = .ok (.istore 6, 2) := by decide +kernel
theorem dJ2_getChars_ba4f3_14 : decode cJ2_getChars_ba4f3 14 = .ok (.iload 6, 2) := by decide +kernel
theorem dJ2_getChars_ba4f3_16 : decode cJ2_getChars_ba4f3 16 = .ok (.ifCond .ne 6, 3) := by decide +kernel
theorem dJ2_getChars_ba4f3_19 : decode cJ2_getChars_ba4f3 19 = .ok (.iload_n 0, 1) := by decide +kernel
theorem dJ2_getChars_ba4f3_20 : decode cJ2_getChars_ba4f3 20 = .ok (.ineg, 1) := by decide +kernel
theorem dJ2_getChars_ba4f3_21 : decode cJ2_getChars_ba4f3 21 = .ok (.istore_n 0, 1) := by decide +kernel
theorem dJ2_getChars_ba4f3_22 : decode cJ2_getChars_ba4f3 22 = .ok (.iload_n 0, 1) := by decide +kernel
theorem dJ2_getChars_ba4f3_23 : decode cJ2_getChars_ba4f3 23 = .ok (.bipush (-100), 2) := by decide +kernel
theorem dJ2_getChars_ba4f3_25 : decode cJ2_getChars_ba4f3 25 = .ok (.if_icmp .gt 51, 3) := by decide +kernel
theorem dJ2_getChars_ba4f3_28 : decode cJ2_getChars_ba4f3 28 = .ok (.iload_n 0, 1) := by decide +kernel
theorem dJ2_getChars_ba4f3_29 : decode cJ2_getChars_ba4f3 29 = .ok (.bipush 100, 2) := by decide +kernel
theorem dJ2_getChars_ba4f3_31 : decode cJ2_getChars_ba4f3 31 = .ok (.idiv, 1) := by decide +kernel
theorem dJ2_getChars_ba4f3_32 : decode cJ2_getChars_ba4f3 32 = .ok (.istore_n 3, 1) := by decide +kernel
theorem dJ2_getChars_ba4f3_33 : decode cJ2_getChars_ba4f3 33 = .ok (.iload_n 3, 1) := by decide +kernel
theorem dJ2_getChars_ba4f3_34 : decode cJ2_getChars_ba4f3 34 = .ok (.bipush 100, 2) := by decide +kernel
theorem dJ2_getChars_ba4f3_36 : decode cJ2_getChars_ba4f3 36 = .ok (.imul, 1) := by decide +kernel
theorem dJ2_getChars_ba4f3_37 : decode cJ2_getChars_ba4f3 37 = .ok (.iload_n 0, 1) := by decide +kernel
theorem dJ2_getChars_ba4f3_38 : decode cJ2_getChars_ba4f3 38 = .ok (.isub, 1) := by decide +kernel
theorem dJ2_getChars_ba4f3_39 : decode cJ2_getChars_ba4f3 39 = .ok (.istore 4, 2) := by decide +kernel
theorem dJ2_getChars_ba4f3_41 : decode cJ2_getChars_ba4f3 41 = .ok (.iload_n 3, 1) := by decide +kernel
theorem dJ2_getChars_ba4f3_42 : decode cJ2_getChars_ba4f3 42 = .ok (.istore_n 0, 1) := by decide +kernel
theorem dJ2_getChars_ba4f3_43 : decode cJ2_getChars_ba4f3 43 = .ok (.aload_n 2, 1) := by decide +kernel
theorem dJ2_getChars_ba4f3_44 : decode cJ2_getChars_ba4f3 44 = .ok (.iinc 5 (-1), 3) := by decide +kernel
theorem dJ2_getChars_ba4f3_47 : decode cJ2_getChars_ba4f3 47 = .ok (.iload 5, 2) := by decide +kernel
theorem dJ2_getChars_ba4f3_49 : decode cJ2_getChars_ba4f3 49 = .ok (.getstatic 403, 3) := by decide +kernel
theorem dJ2_getChars_ba4f3_52 : decode cJ2_getChars_ba4f3 52 = .ok (.iload 4, 2) := by decide +kernel
theorem dJ2_getChars_ba4f3_54 : decode cJ2_getChars_ba4f3 54 = .ok (.baload, 1) := by decide +kernel
theorem dJ2_getChars_ba4f3_55 : decode cJ2_getChars_ba4f3 55 = .ok (.invokestatic 111, 3) := by decide +kernel
theorem dJ2_getChars_ba4f3_58 : decode cJ2_getChars_ba4f3 58 = .ok (.aload_n 2, 1) := by decide +kernel
theorem dJ2_getChars_ba4f3_59 : decode cJ2_getChars_ba4f3 59 = .ok (.iinc 5 (-1), 3) := by decide +kernel
theorem dJ2_getChars_ba4f3_62 : decode cJ2_getChars_ba4f3 62 = .ok (.iload 5, 2) := by decide +kernel
theorem dJ2_getChars_ba4f3_64 : decode cJ2_getChars_ba4f3 64 = .ok (.getstatic 407, 3) := by decide +kernel
theorem dJ2_getChars_ba4f3_67 : decode cJ2_getChars_ba4f3 67 = .ok (.iload 4, 2) := by decide +kernel
theorem dJ2_getChars_ba4f3_69 : decode cJ2_getChars_ba4f3 69 = .ok (.baload, 1) := by decide +kernel
theorem dJ2_getChars_ba4f3_70 : decode cJ2_getChars_ba4f3 70 = .ok (.invokestatic 111, 3) := by decide +kernel
theorem dJ2_getChars_ba4f3_73 : decode cJ2_getChars_ba4f3 73 = .ok (.goto (-51), 3) := by decide +kernel
theorem dJ2_getChars_ba4f3_76 : decode cJ2_getChars_ba4f3 76 = .ok (.aload_n 2, 1) := by decide +kernel
theorem dJ2_getChars_ba4f3_77 : decode cJ2_getChars_ba4f3 77 = .ok (.iinc 5 (-1), 3) := by decide +kernel
theorem dJ2_getChars_ba4f3_80 : decode cJ2_getChars_ba4f3 80 = .ok (.iload 5, 2) := by decide +kernel
theorem dJ2_getChars_ba4f3_82 : decode cJ2_getChars_ba4f3 82 = .ok (.getstatic 403, 3) := by decide +kernel
theorem dJ2_getChars_ba4f3_85 : decode cJ2_getChars_ba4f3 85 = .ok (.iload_n 0, 1) := by decide +kernel
theorem dJ2_getChars_ba4f3_86 : decode cJ2_getChars_ba4f3 86 = .ok (.ineg, 1) := by decide +kernel
theorem dJ2_getChars_ba4f3_87 : decode cJ2_getChars_ba4f3 87 = .ok (.baload, 1) := by decide +kernel
theorem dJ2_getChars_ba4f3_88 : decode cJ2_getChars_ba4f3 88 = .ok (.invokestatic 111, 3) := by decide +kernel
theorem dJ2_getChars_ba4f3_91 : decode cJ2_getChars_ba4f3 91 = .ok (.iload_n 0, 1) := by decide +kernel
theorem dJ2_getChars_ba4f3_92 : decode cJ2_getChars_ba4f3 92 = .ok (.bipush (-9), 2) := by decide +kernel
theorem dJ2_getChars_ba4f3_94 : decode cJ2_getChars_ba4f3 94 = .ok (.if_icmp .ge 18, 3) := by decide +kernel
theorem dJ2_getChars_ba4f3_97 : decode cJ2_getChars_ba4f3 97 = .ok (.aload_n 2, 1) := by decide +kernel
theorem dJ2_getChars_ba4f3_98 : decode cJ2_getChars_ba4f3 98 = .ok (.iinc 5 (-1), 3) := by decide +kernel
theorem dJ2_getChars_ba4f3_101 : decode cJ2_getChars_ba4f3 101 = .ok (.iload 5, 2) := by decide +kernel
theorem dJ2_getChars_ba4f3_103 : decode cJ2_getChars_ba4f3 103 = .ok (.getstatic 407, 3) := by decide +kernel
theorem dJ2_getChars_ba4f3_106 : decode cJ2_getChars_ba4f3 106 = .ok (.iload_n 0, 1) := by decide +kernel
theorem dJ2_getChars_ba4f3_107 : decode cJ2_getChars_ba4f3 107 = .ok (.ineg, 1) := by decide +kernel
theorem dJ2_getChars_ba4f3_108 : decode cJ2_getChars_ba4f3 108 = .ok (.baload, 1) := by decide +kernel
theorem dJ2_getChars_ba4f3_109 : decode cJ2_getChars_ba4f3 109 = .ok (.invokestatic 111, 3) := by decide +kernel
theorem dJ2_getChars_ba4f3_112 : decode cJ2_getChars_ba4f3 112 = .ok (.iload 6, 2) := by decide +kernel
theorem dJ2_getChars_ba4f3_114 : decode cJ2_getChars_ba4f3 114 = .ok (.ifCond .eq 14, 3) := by decide +kernel
theorem dJ2_getChars_ba4f3_117 : decode cJ2_getChars_ba4f3 117 = .ok (.aload_n 2, 1) := by decide +kernel
theorem dJ2_getChars_ba4f3_118 : decode cJ2_getChars_ba4f3 118 = .ok (.iinc 5 (-1), 3) := by decide +kernel
theorem dJ2_getChars_ba4f3_121 : decode cJ2_getChars_ba4f3 121 = .ok (.iload 5, 2) := by decide +kernel
theorem dJ2_getChars_ba4f3_123 : decode cJ2_getChars_ba4f3 123 = .ok (.bipush 45, 2) := by decide +kernel
theorem dJ2_getChars_ba4f3_125 : decode cJ2_getChars_ba4f3 125 = .ok (.invokestatic 111, 3) := by decide +kernel
theorem dJ2_getChars_ba4f3_128 : decode cJ2_getChars_ba4f3 128 = .ok (.iload 5, 2) := by decide +kernel
theorem dJ2_getChars_ba4f3_130 : decode cJ2_getChars_ba4f3 130 = .ok (.ireturn, 1) := by decide +kernel
theorem dJ2_checkIndex_2214a_0 : decode cJ2_checkIndex_2214a 0 = .ok (.iload_n 0, 1) := by decide +kernel
theorem dJ2_checkIndex_2214a_1 : decode cJ2_checkIndex_2214a 1 = .ok (.aload_n 1, 1) := by decide +kernel
theorem dJ2_checkIndex_2214a_2 : decode cJ2_checkIndex_2214a 2 = .ok (.invokestatic 48, 3) := by decide +kernel
theorem dJ2_checkIndex_2214a_5 : decode cJ2_checkIndex_2214a 5 = .ok (.invokestatic 414, 3) := by decide +kernel
theorem dJ2_checkIndex_2214a_8 : decode cJ2_checkIndex_2214a 8 = .ok (.return_, 1) := by decide +kernel
theorem dJ2_checkBoundsBeginEnd_d044e_0 : decode cJ2_checkBoundsBeginEnd_d044e 0 = .ok (.iload_n 0, 1) := by decide +kernel
theorem dJ2_checkBoundsBeginEnd_d044e_1 : decode cJ2_checkBoundsBeginEnd_d044e 1 = .ok (.iload_n 1, 1) := by decide +kernel
theorem dJ2_checkBoundsBeginEnd_d044e_2 : decode cJ2_checkBoundsBeginEnd_d044e 2 = .ok (.aload_n 2, 1) := by decide +kernel
theorem dJ2_checkBoundsBeginEnd_d044e_3 : decode cJ2_checkBoundsBeginEnd_d044e 3 = .ok (.invokestatic 48, 3) := by decide +kernel
theorem dJ2_checkBoundsBeginEnd_d044e_6 : decode cJ2_checkBoundsBeginEnd_d044e 6 = .ok (.invokestatic 241, 3) := by decide +kernel
theorem dJ2_checkBoundsBeginEnd_d044e_9 : decode cJ2_checkBoundsBeginEnd_d044e 9 = .ok (.return_, 1) := by decide +kernel
theorem dJ2_checkBoundsOffCount_d044e_0 : decode cJ2_checkBoundsOffCount_d044e 0 = .ok (.iload_n 0, 1) := by decide +kernel
theorem dJ2_checkBoundsOffCount_d044e_1 : decode cJ2_checkBoundsOffCount_d044e 1 = .ok (.iload_n 1, 1) := by decide +kernel
theorem dJ2_checkBoundsOffCount_d044e_2 : decode cJ2_checkBoundsOffCount_d044e 2 = .ok (.aload_n 2, 1) := by decide +kernel
theorem dJ2_checkBoundsOffCount_d044e_3 : decode cJ2_checkBoundsOffCount_d044e 3 = .ok (.invokestatic 48, 3) := by decide +kernel
theorem dJ2_checkBoundsOffCount_d044e_6 : decode cJ2_checkBoundsOffCount_d044e 6 = .ok (.invokestatic 419, 3) := by decide +kernel
theorem dJ2_checkBoundsOffCount_d044e_9 : decode cJ2_checkBoundsOffCount_d044e 9 = .ok (.pop, 1) := by decide +kernel
theorem dJ2_checkBoundsOffCount_d044e_10 : decode cJ2_checkBoundsOffCount_d044e 10 = .ok (.return_, 1) := by decide +kernel
theorem dJ7_fill_53178_0 : decode cJ7_fill_53178 0 = .ok (.iconst 0, 1) := by decide +kernel
theorem dJ7_fill_53178_1 : decode cJ7_fill_53178 1 = .ok (.istore_n 2, 1) := by decide +kernel
theorem dJ7_fill_53178_2 : decode cJ7_fill_53178 2 = .ok (.aload_n 0, 1) := by decide +kernel
theorem dJ7_fill_53178_3 : decode cJ7_fill_53178 3 = .ok (.arraylength, 1) := by decide +kernel
theorem dJ7_fill_53178_4 : decode cJ7_fill_53178 4 = .ok (.istore_n 3, 1) := by decide +kernel
theorem dJ7_fill_53178_5 : decode cJ7_fill_53178 5 = .ok (.iload_n 2, 1) := by decide +kernel
theorem dJ7_fill_53178_6 : decode cJ7_fill_53178 6 = .ok (.iload_n 3, 1) := by decide +kernel
theorem dJ7_fill_53178_7 : decode cJ7_fill_53178 7 = .ok (.if_icmp .ge 13, 3) := by decide +kernel
theorem dJ7_fill_53178_10 : decode cJ7_fill_53178 10 = .ok (.aload_n 0, 1) := by decide +kernel
theorem dJ7_fill_53178_11 : decode cJ7_fill_53178 11 = .ok (.iload_n 2, 1) := by decide +kernel
theorem dJ7_fill_53178_12 : decode cJ7_fill_53178 12 = .ok (.iload_n 1, 1) := by decide +kernel
theorem dJ7_fill_53178_13 : decode cJ7_fill_53178 13 = .ok (.iastore, 1) := by decide +kernel
theorem dJ7_fill_53178_14 : decode cJ7_fill_53178 14 = .ok (.iinc 2 1, 3) := by decide +kernel
theorem dJ7_fill_53178_17 : decode cJ7_fill_53178 17 = .ok (.goto (-12), 3) := by decide +kernel
theorem dJ7_fill_53178_20 : decode cJ7_fill_53178 20 = .ok (.return_, 1) := by decide +kernel
theorem dJ7_copyOf_9075b_0 : decode cJ7_copyOf_9075b 0 = .ok (.iload_n 1, 1) := by decide +kernel
theorem dJ7_copyOf_9075b_1 : decode cJ7_copyOf_9075b 1 = .ok (.aload_n 0, 1) := by decide +kernel
theorem dJ7_copyOf_9075b_2 : decode cJ7_copyOf_9075b 2 = .ok (.arraylength, 1) := by decide +kernel
theorem dJ7_copyOf_9075b_3 : decode cJ7_copyOf_9075b 3 = .ok (.if_icmp .ne 11, 3) := by decide +kernel
theorem dJ7_copyOf_9075b_6 : decode cJ7_copyOf_9075b 6 = .ok (.aload_n 0, 1) := by decide +kernel
theorem dJ7_copyOf_9075b_7 : decode cJ7_copyOf_9075b 7 = .ok (.invokevirtual 310, 3) := by decide +kernel
theorem dJ7_copyOf_9075b_10 : decode cJ7_copyOf_9075b 10 = .ok (.checkcast 311, 3) := by decide +kernel
theorem dJ7_copyOf_9075b_13 : decode cJ7_copyOf_9075b 13 = .ok (.areturn, 1) := by decide +kernel
theorem dJ7_copyOf_9075b_14 : decode cJ7_copyOf_9075b 14 = .ok (.iload_n 1, 1) := by decide +kernel
theorem dJ7_copyOf_9075b_15 : decode cJ7_copyOf_9075b 15 = .ok (.newarray .byte, 2) := by decide +kernel
theorem dJ7_copyOf_9075b_17 : decode cJ7_copyOf_9075b 17 = .ok (.astore_n 2, 1) := by decide +kernel
theorem dJ7_copyOf_9075b_18 : decode cJ7_copyOf_9075b 18 = .ok (.aload_n 0, 1) := by decide +kernel
theorem dJ7_copyOf_9075b_19 : decode cJ7_copyOf_9075b 19 = .ok (.iconst 0, 1) := by decide +kernel
theorem dJ7_copyOf_9075b_20 : decode cJ7_copyOf_9075b 20 = .ok (.aload_n 2, 1) := by decide +kernel
theorem dJ7_copyOf_9075b_21 : decode cJ7_copyOf_9075b 21 = .ok (.iconst 0, 1) := by decide +kernel
theorem dJ7_copyOf_9075b_22 : decode cJ7_copyOf_9075b 22 = .ok (.aload_n 0, 1) := by decide +kernel
theorem dJ7_copyOf_9075b_23 : decode cJ7_copyOf_9075b 23 = .ok (.arraylength, 1) := by decide +kernel
theorem dJ7_copyOf_9075b_24 : decode cJ7_copyOf_9075b 24 = .ok (.iload_n 1, 1) := by decide +kernel
theorem dJ7_copyOf_9075b_25 : decode cJ7_copyOf_9075b 25 = .ok (.invokestatic 304, 3) := by decide +kernel
theorem dJ7_copyOf_9075b_28 : decode cJ7_copyOf_9075b 28 = .ok (.invokestatic 150, 3) := by decide +kernel
theorem dJ7_copyOf_9075b_31 : decode cJ7_copyOf_9075b 31 = .ok (.aload_n 2, 1) := by decide +kernel
theorem dJ7_copyOf_9075b_32 : decode cJ7_copyOf_9075b 32 = .ok (.areturn, 1) := by decide +kernel
theorem dJ7_checkLength_df160_0 : decode cJ7_checkLength_df160 0 = .ok (.iload_n 1, 1) := by decide +kernel
theorem dJ7_checkLength_df160_1 : decode cJ7_checkLength_df160 1 = .ok (.iload_n 0, 1) := by decide +kernel
theorem dJ7_checkLength_df160_2 : decode cJ7_checkLength_df160 2 = .ok (.if_icmp .ge 35, 3) := by decide +kernel
theorem dJ7_checkLength_df160_5 : decode cJ7_checkLength_df160 5 = .ok (.new 43, 3) := by decide +kernel
theorem dJ7_checkLength_df160_8 : decode cJ7_checkLength_df160 8 = .ok (.dup, 1) := by decide +kernel
theorem dJ7_checkLength_df160_9 : decode cJ7_checkLength_df160 9 = .ok (.new 45, 3) := by decide +kernel
theorem dJ7_checkLength_df160_12 : decode cJ7_checkLength_df160 12 = .ok (.dup, 1) := by decide +kernel
theorem dJ7_checkLength_df160_13 : decode cJ7_checkLength_df160 13 = .ok (.invokespecial 47, 3) := by decide +kernel
theorem dJ7_checkLength_df160_16 : decode cJ7_checkLength_df160 16 = .ok (.iload_n 0, 1) := by decide +kernel
theorem dJ7_checkLength_df160_17 : decode cJ7_checkLength_df160 17 = .ok (.invokevirtual 54, 3) := by decide +kernel
theorem dJ7_checkLength_df160_20 : decode cJ7_checkLength_df160 20 = .ok (.ldc_w 337, 3) := by decide +kernel
theorem dJ7_checkLength_df160_23 : decode cJ7_checkLength_df160 23 = .ok (.invokevirtual 50, 3) := by decide +kernel
theorem dJ7_checkLength_df160_26 : decode cJ7_checkLength_df160 26 = .ok (.iload_n 1, 1) := by decide +kernel
theorem dJ7_checkLength_df160_27 : decode cJ7_checkLength_df160 27 = .ok (.invokevirtual 54, 3) := by decide +kernel
theorem dJ7_checkLength_df160_30 : decode cJ7_checkLength_df160 30 = .ok (.invokevirtual 61, 3) := by decide +kernel
theorem dJ7_checkLength_df160_33 : decode cJ7_checkLength_df160 33 = .ok (.invokespecial 65, 3) := by decide +kernel
theorem dJ7_checkLength_df160_36 : decode cJ7_checkLength_df160 36 = .ok (.athrow, 1) := by decide +kernel
theorem dJ7_checkLength_df160_37 : decode cJ7_checkLength_df160 37 = .ok (.return_, 1) := by decide +kernel
theorem dJ7_copyOfRange_39247_0 : decode cJ7_copyOfRange_39247 0 = .ok (.iload_n 1, 1) := by decide +kernel
theorem dJ7_copyOfRange_39247_1 : decode cJ7_copyOfRange_39247 1 = .ok (.ifCond .ne 9, 3) := by decide +kernel
theorem dJ7_copyOfRange_39247_4 : decode cJ7_copyOfRange_39247 4 = .ok (.iload_n 2, 1) := by decide +kernel
theorem dJ7_copyOfRange_39247_5 : decode cJ7_copyOfRange_39247 5 = .ok (.aload_n 0, 1) := by decide +kernel
theorem dJ7_copyOfRange_39247_6 : decode cJ7_copyOfRange_39247 6 = .ok (.arraylength, 1) := by decide +kernel
theorem dJ7_copyOfRange_39247_7 : decode cJ7_copyOfRange_39247 7 = .ok (.if_icmp .eq 10, 3) := by decide +kernel
theorem dJ7_copyOfRange_39247_10 : decode cJ7_copyOfRange_39247 10 = .ok (.aload_n 0, 1) := by decide +kernel
theorem dJ7_copyOfRange_39247_11 : decode cJ7_copyOfRange_39247 11 = .ok (.iload_n 1, 1) := by decide +kernel
theorem dJ7_copyOfRange_39247_12 : decode cJ7_copyOfRange_39247 12 = .ok (.iload_n 2, 1) := by decide +kernel
theorem dJ7_copyOfRange_39247_13 : decode cJ7_copyOfRange_39247 13 = .ok (.invokestatic 339, 3) := by decide +kernel
theorem dJ7_copyOfRange_39247_16 : decode cJ7_copyOfRange_39247 16 = .ok (.areturn, 1) := by decide +kernel
theorem dJ7_copyOfRange_39247_17 : decode cJ7_copyOfRange_39247 17 = .ok (.aload_n 0, 1) := by decide +kernel
theorem dJ7_copyOfRange_39247_18 : decode cJ7_copyOfRange_39247 18 = .ok (.invokevirtual 310, 3) := by decide +kernel
theorem dJ7_copyOfRange_39247_21 : decode cJ7_copyOfRange_39247 21 = .ok (.checkcast 311, 3) := by decide +kernel
theorem dJ7_copyOfRange_39247_24 : decode cJ7_copyOfRange_39247 24 = .ok (.areturn, 1) := by decide +kernel
theorem dJ7_copyOfRangeByte_39247_0 : decode cJ7_copyOfRangeByte_39247 0 = .ok (.iload_n 1, 1) := by decide +kernel
theorem dJ7_copyOfRangeByte_39247_1 : decode cJ7_copyOfRangeByte_39247 1 = .ok (.iload_n 2, 1) := by decide +kernel
theorem dJ7_copyOfRangeByte_39247_2 : decode cJ7_copyOfRangeByte_39247 2 = .ok (.invokestatic 343, 3) := by decide +kernel
theorem dJ7_copyOfRangeByte_39247_5 : decode cJ7_copyOfRangeByte_39247 5 = .ok (.iload_n 2, 1) := by decide +kernel
theorem dJ7_copyOfRangeByte_39247_6 : decode cJ7_copyOfRangeByte_39247 6 = .ok (.iload_n 1, 1) := by decide +kernel
theorem dJ7_copyOfRangeByte_39247_7 : decode cJ7_copyOfRangeByte_39247 7 = .ok (.isub, 1) := by decide +kernel
theorem dJ7_copyOfRangeByte_39247_8 : decode cJ7_copyOfRangeByte_39247 8 = .ok (.istore_n 3, 1) := by decide +kernel
theorem dJ7_copyOfRangeByte_39247_9 : decode cJ7_copyOfRangeByte_39247 9 = .ok (.iload_n 3, 1) := by decide +kernel
theorem dJ7_copyOfRangeByte_39247_10 : decode cJ7_copyOfRangeByte_39247 10 = .ok (.newarray .byte, 2) := by decide +kernel
theorem dJ7_copyOfRangeByte_39247_12 : decode cJ7_copyOfRangeByte_39247 12 = .ok (.astore 4, 2) := by decide +kernel
theorem dJ7_copyOfRangeByte_39247_14 : decode cJ7_copyOfRangeByte_39247 14 = .ok (.aload_n 0, 1) := by decide +kernel
theorem dJ7_copyOfRangeByte_39247_15 : decode cJ7_copyOfRangeByte_39247 15 = .ok (.iload_n 1, 1) := by decide +kernel
theorem dJ7_copyOfRangeByte_39247_16 : decode cJ7_copyOfRangeByte_39247 16 = .ok (.aload 4, 2) := by decide +kernel
theorem dJ7_copyOfRangeByte_39247_18 : decode cJ7_copyOfRangeByte_39247 18 = .ok (.iconst 0, 1) := by decide +kernel
theorem dJ7_copyOfRangeByte_39247_19 : decode cJ7_copyOfRangeByte_39247 19 = .ok (.aload_n 0, 1) := by decide +kernel
theorem dJ7_copyOfRangeByte_39247_20 : decode cJ7_copyOfRangeByte_39247 20 = .ok (.arraylength, 1) := by decide +kernel
theorem dJ7_copyOfRangeByte_39247_21 : decode cJ7_copyOfRangeByte_39247 21 = .ok (.iload_n 1, 1) := by decide +kernel
theorem dJ7_copyOfRangeByte_39247_22 : decode cJ7_copyOfRangeByte_39247 22 = .ok (.isub, 1) := by decide +kernel
theorem dJ7_copyOfRangeByte_39247_23 : decode cJ7_copyOfRangeByte_39247 23 = .ok (.iload_n 3, 1) := by decide +kernel
theorem dJ7_copyOfRangeByte_39247_24 : decode cJ7_copyOfRangeByte_39247 24 = .ok (.invokestatic 304, 3) := by decide +kernel
theorem dJ7_copyOfRangeByte_39247_27 : decode cJ7_copyOfRangeByte_39247 27 = .ok (.invokestatic 150, 3) := by decide +kernel
theorem dJ7_copyOfRangeByte_39247_30 : decode cJ7_copyOfRangeByte_39247 30 = .ok (.aload 4, 2) := by decide +kernel
theorem dJ7_copyOfRangeByte_39247_32 : decode cJ7_copyOfRangeByte_39247 32 = .ok (.areturn, 1) := by decide +kernel
theorem dJ8_newLength_cabcc_0 : decode cJ8_newLength_cabcc 0 = .ok (.iload_n 0, 1) := by decide +kernel
theorem dJ8_newLength_cabcc_1 : decode cJ8_newLength_cabcc 1 = .ok (.iload_n 1, 1) := by decide +kernel
theorem dJ8_newLength_cabcc_2 : decode cJ8_newLength_cabcc 2 = .ok (.iload_n 2, 1) := by decide +kernel
theorem dJ8_newLength_cabcc_3 : decode cJ8_newLength_cabcc 3 = .ok (.invokestatic 194, 3) := by decide +kernel
theorem dJ8_newLength_cabcc_6 : decode cJ8_newLength_cabcc 6 = .ok (.iadd, 1) := by decide +kernel
theorem dJ8_newLength_cabcc_7 : decode cJ8_newLength_cabcc 7 = .ok (.istore_n 3, 1) := by decide +kernel
theorem dJ8_newLength_cabcc_8 : decode cJ8_newLength_cabcc 8 = .ok (.iconst 0, 1) := by decide +kernel
theorem dJ8_newLength_cabcc_9 : decode cJ8_newLength_cabcc 9 = .ok (.iload_n 3, 1) := by decide +kernel
theorem dJ8_newLength_cabcc_10 : decode cJ8_newLength_cabcc 10 = .ok (.if_icmp .ge 11, 3) := by decide +kernel
theorem dJ8_newLength_cabcc_13 : decode cJ8_newLength_cabcc 13 = .ok (.iload_n 3, 1) := by decide +kernel
theorem dJ8_newLength_cabcc_14 : decode cJ8_newLength_cabcc 14 = .ok (.ldc 200, 2) := by decide +kernel
theorem dJ8_newLength_cabcc_16 : decode cJ8_newLength_cabcc 16 = .ok (.if_icmp .gt 5, 3) := by decide +kernel
theorem dJ8_newLength_cabcc_19 : decode cJ8_newLength_cabcc 19 = .ok (.iload_n 3, 1) := by decide +kernel
theorem dJ8_newLength_cabcc_20 : decode cJ8_newLength_cabcc 20 = .ok (.ireturn, 1) := by decide +kernel
theorem dJ8_newLength_cabcc_21 : decode cJ8_newLength_cabcc 21 = .ok (.iload_n 0, 1) := by decide +kernel
theorem dJ8_newLength_cabcc_22 : decode cJ8_newLength_cabcc 22 = .ok (.iload_n 1, 1) := by decide +kernel
theorem dJ8_newLength_cabcc_23 : decode cJ8_newLength_cabcc 23 = .ok (.invokestatic 201, 3) := by decide +kernel
theorem dJ8_newLength_cabcc_26 : decode cJ8_newLength_cabcc 26 = .ok (.ireturn, 1) := by decide +kernel
theorem dJ8_hugeLength_7cf53_0 : decode cJ8_hugeLength_7cf53 0 = .ok (.iload_n 0, 1) := by decide +kernel
theorem dJ8_hugeLength_7cf53_1 : decode cJ8_hugeLength_7cf53 1 = .ok (.iload_n 1, 1) := by decide +kernel
theorem dJ8_hugeLength_7cf53_2 : decode cJ8_hugeLength_7cf53 2 = .ok (.iadd, 1) := by decide +kernel
theorem dJ8_hugeLength_7cf53_3 : decode cJ8_hugeLength_7cf53 3 = .ok (.istore_n 2, 1) := by decide +kernel
theorem dJ8_hugeLength_7cf53_4 : decode cJ8_hugeLength_7cf53 4 = .ok (.iload_n 2, 1) := by decide +kernel
theorem dJ8_hugeLength_7cf53_5 : decode cJ8_hugeLength_7cf53 5 = .ok (.ifCond .ge 44, 3) := by decide +kernel
theorem dJ8_hugeLength_7cf53_8 : decode cJ8_hugeLength_7cf53 8 = .ok (.new 204, 3) := by decide +kernel
theorem dJ8_hugeLength_7cf53_11 : decode cJ8_hugeLength_7cf53 11 = .ok (.dup, 1) := by decide +kernel
theorem dJ8_hugeLength_7cf53_12 : decode cJ8_hugeLength_7cf53 12 = .ok (.new 89, 3) := by decide +kernel
theorem dJ8_hugeLength_7cf53_15 : decode cJ8_hugeLength_7cf53 15 = .ok (.dup, 1) := by decide +kernel
theorem dJ8_hugeLength_7cf53_16 : decode cJ8_hugeLength_7cf53 16 = .ok (.invokespecial 91, 3) := by decide +kernel
theorem dJ8_hugeLength_7cf53_19 : decode cJ8_hugeLength_7cf53 19 = .ok (.ldc 206, 2) := by decide +kernel
theorem dJ8_hugeLength_7cf53_21 : decode cJ8_hugeLength_7cf53 21 = .ok (.invokevirtual 94, 3) := by decide +kernel
theorem dJ8_hugeLength_7cf53_24 : decode cJ8_hugeLength_7cf53 24 = .ok (.iload_n 0, 1) := by decide +kernel
theorem dJ8_hugeLength_7cf53_25 : decode cJ8_hugeLength_7cf53 25 = .ok (.invokevirtual 98, 3) := by decide +kernel
theorem dJ8_hugeLength_7cf53_28 : decode cJ8_hugeLength_7cf53 28 = .ok (.ldc 208, 2) := by decide +kernel
theorem dJ8_hugeLength_7cf53_30 : decode cJ8_hugeLength_7cf53 30 = .ok (.invokevirtual 94, 3) := by decide +kernel
theorem dJ8_hugeLength_7cf53_33 : decode cJ8_hugeLength_7cf53 33 = .ok (.iload_n 1, 1) := by decide +kernel
theorem dJ8_hugeLength_7cf53_34 : decode cJ8_hugeLength_7cf53 34 = .ok (.invokevirtual 98, 3) := by decide +kernel
theorem dJ8_hugeLength_7cf53_37 : decode cJ8_hugeLength_7cf53 37 = .ok (.ldc 210, 2) := by decide +kernel
theorem dJ8_hugeLength_7cf53_39 : decode cJ8_hugeLength_7cf53 39 = .ok (.invokevirtual 94, 3) := by decide +kernel
theorem dJ8_hugeLength_7cf53_42 : decode cJ8_hugeLength_7cf53 42 = .ok (.invokevirtual 101, 3) := by decide +kernel
theorem dJ8_hugeLength_7cf53_45 : decode cJ8_hugeLength_7cf53 45 = .ok (.invokespecial 212, 3) := by decide +kernel
theorem dJ8_hugeLength_7cf53_48 : decode cJ8_hugeLength_7cf53 48 = .ok (.athrow, 1) := by decide +kernel
theorem dJ8_hugeLength_7cf53_49 : decode cJ8_hugeLength_7cf53 49 = .ok (.iload_n 2, 1) := by decide +kernel
theorem dJ8_hugeLength_7cf53_50 : decode cJ8_hugeLength_7cf53 50 = .ok (.ldc 200, 2) := by decide +kernel
theorem dJ8_hugeLength_7cf53_52 : decode cJ8_hugeLength_7cf53 52 = .ok (.if_icmp .gt 6, 3) := by decide +kernel
theorem dJ8_hugeLength_7cf53_55 : decode cJ8_hugeLength_7cf53 55 = .ok (.ldc 200, 2) := by decide +kernel
theorem dJ8_hugeLength_7cf53_57 : decode cJ8_hugeLength_7cf53 57 = .ok (.ireturn, 1) := by decide +kernel
theorem dJ8_hugeLength_7cf53_58 : decode cJ8_hugeLength_7cf53 58 = .ok (.iload_n 2, 1) := by decide +kernel
theorem dJ8_hugeLength_7cf53_59 : decode cJ8_hugeLength_7cf53 59 = .ok (.ireturn, 1) := by decide +kernel
theorem dJ3_checkIndex_8e157_0 : decode cJ3_checkIndex_8e157 0 = .ok (.iload_n 0, 1) := by decide +kernel
theorem dJ3_checkIndex_8e157_1 : decode cJ3_checkIndex_8e157 1 = .ok (.ifCond .lt 8, 3) := by decide +kernel
theorem dJ3_checkIndex_8e157_4 : decode cJ3_checkIndex_8e157 4 = .ok (.iload_n 0, 1) := by decide +kernel
theorem dJ3_checkIndex_8e157_5 : decode cJ3_checkIndex_8e157 5 = .ok (.iload_n 1, 1) := by decide +kernel
theorem dJ3_checkIndex_8e157_6 : decode cJ3_checkIndex_8e157 6 = .ok (.if_icmp .lt 10, 3) := by decide +kernel
theorem dJ3_checkIndex_8e157_9 : decode cJ3_checkIndex_8e157 9 = .ok (.aload_n 2, 1) := by decide +kernel
theorem dJ3_checkIndex_8e157_10 : decode cJ3_checkIndex_8e157 10 = .ok (.iload_n 0, 1) := by decide +kernel
theorem dJ3_checkIndex_8e157_11 : decode cJ3_checkIndex_8e157 11 = .ok (.iload_n 1, 1) := by decide +kernel
theorem dJ3_checkIndex_8e157_12 : decode cJ3_checkIndex_8e157 12 = .ok (.invokestatic 95, 3) := by decide +kernel
theorem dJ3_checkIndex_8e157_15 : decode cJ3_checkIndex_8e157 15 = .ok (.athrow, 1) := by decide +kernel
theorem dJ3_checkIndex_8e157_16 : decode cJ3_checkIndex_8e157 16 = .ok (.iload_n 0, 1) := by decide +kernel
theorem dJ3_checkIndex_8e157_17 : decode cJ3_checkIndex_8e157 17 = .ok (.ireturn, 1) := by decide +kernel
theorem dJ3_checkFromToIndex_8c36e_0 : decode cJ3_checkFromToIndex_8c36e 0 = .ok (.iload_n 0, 1) := by decide +kernel
theorem dJ3_checkFromToIndex_8c36e_1 : decode cJ3_checkFromToIndex_8c36e 1 = .ok (.ifCond .lt 13, 3) := by decide +kernel
theorem dJ3_checkFromToIndex_8c36e_4 : decode cJ3_checkFromToIndex_8c36e 4 = .ok (.iload_n 0, 1) := by decide +kernel
theorem dJ3_checkFromToIndex_8c36e_5 : decode cJ3_checkFromToIndex_8c36e 5 = .ok (.iload_n 1, 1) := by decide +kernel
theorem dJ3_checkFromToIndex_8c36e_6 : decode cJ3_checkFromToIndex_8c36e 6 = .ok (.if_icmp .gt 8, 3) := by decide +kernel
theorem dJ3_checkFromToIndex_8c36e_9 : decode cJ3_checkFromToIndex_8c36e 9 = .ok (.iload_n 1, 1) := by decide +kernel
theorem dJ3_checkFromToIndex_8c36e_10 : decode cJ3_checkFromToIndex_8c36e 10 = .ok (.iload_n 2, 1) := by decide +kernel
theorem dJ3_checkFromToIndex_8c36e_11 : decode cJ3_checkFromToIndex_8c36e 11 = .ok (.if_icmp .le 11, 3) := by decide +kernel
theorem dJ3_checkFromToIndex_8c36e_14 : decode cJ3_checkFromToIndex_8c36e 14 = .ok (.aload_n 3, 1) := by decide +kernel
theorem dJ3_checkFromToIndex_8c36e_15 : decode cJ3_checkFromToIndex_8c36e 15 = .ok (.iload_n 0, 1) := by decide +kernel
theorem dJ3_checkFromToIndex_8c36e_16 : decode cJ3_checkFromToIndex_8c36e 16 = .ok (.iload_n 1, 1) := by decide +kernel
theorem dJ3_checkFromToIndex_8c36e_17 : decode cJ3_checkFromToIndex_8c36e 17 = .ok (.iload_n 2, 1) := by decide +kernel
theorem dJ3_checkFromToIndex_8c36e_18 : decode cJ3_checkFromToIndex_8c36e 18 = .ok (.invokestatic 99, 3) := by decide +kernel
theorem dJ3_checkFromToIndex_8c36e_21 : decode cJ3_checkFromToIndex_8c36e 21 = .ok (.athrow, 1) := by decide +kernel
theorem dJ3_checkFromToIndex_8c36e_22 : decode cJ3_checkFromToIndex_8c36e 22 = .ok (.iload_n 0, 1) := by decide +kernel
theorem dJ3_checkFromToIndex_8c36e_23 : decode cJ3_checkFromToIndex_8c36e 23 = .ok (.ireturn, 1) := by decide +kernel
theorem dJ3_checkFromIndexSize_8c36e_0 : decode cJ3_checkFromIndexSize_8c36e 0 = .ok (.iload_n 2, 1) := by decide +kernel
theorem dJ3_checkFromIndexSize_8c36e_1 : decode cJ3_checkFromIndexSize_8c36e 1 = .ok (.iload_n 0, 1) := by decide +kernel
theorem dJ3_checkFromIndexSize_8c36e_2 : decode cJ3_checkFromIndexSize_8c36e 2 = .ok (.ior, 1) := by decide +kernel
theorem dJ3_checkFromIndexSize_8c36e_3 : decode cJ3_checkFromIndexSize_8c36e 3 = .ok (.iload_n 1, 1) := by decide +kernel
theorem dJ3_checkFromIndexSize_8c36e_4 : decode cJ3_checkFromIndexSize_8c36e 4 = .ok (.ior, 1) := by decide +kernel
theorem dJ3_checkFromIndexSize_8c36e_5 : decode cJ3_checkFromIndexSize_8c36e 5 = .ok (.ifCond .lt 10, 3) := by decide +kernel
theorem dJ3_checkFromIndexSize_8c36e_8 : decode cJ3_checkFromIndexSize_8c36e 8 = .ok (.iload_n 1, 1) := by decide +kernel
theorem dJ3_checkFromIndexSize_8c36e_9 : decode cJ3_checkFromIndexSize_8c36e 9 = .ok (.iload_n 2, 1) := by decide +kernel
theorem dJ3_checkFromIndexSize_8c36e_10 : decode cJ3_checkFromIndexSize_8c36e 10 = .ok (.iload_n 0, 1) := by decide +kernel
theorem dJ3_checkFromIndexSize_8c36e_11 : decode cJ3_checkFromIndexSize_8c36e 11 = .ok (.isub, 1) := by decide +kernel
theorem dJ3_checkFromIndexSize_8c36e_12 : decode cJ3_checkFromIndexSize_8c36e 12 = .ok (.if_icmp .le 11, 3) := by decide +kernel
theorem dJ3_checkFromIndexSize_8c36e_15 : decode cJ3_checkFromIndexSize_8c36e 15 = .ok (.aload_n 3, 1) := by decide +kernel
theorem dJ3_checkFromIndexSize_8c36e_16 : decode cJ3_checkFromIndexSize_8c36e 16 = .ok (.iload_n 0, 1) := by decide +kernel
theorem dJ3_checkFromIndexSize_8c36e_17 : decode cJ3_checkFromIndexSize_8c36e 17 = .ok (.iload_n 1, 1) := by decide +kernel
theorem dJ3_checkFromIndexSize_8c36e_18 : decode cJ3_checkFromIndexSize_8c36e 18 = .ok (.iload_n 2, 1) := by decide +kernel
theorem dJ3_checkFromIndexSize_8c36e_19 : decode cJ3_checkFromIndexSize_8c36e 19 = .ok (.invokestatic 103, 3) := by decide +kernel
theorem dJ3_checkFromIndexSize_8c36e_22 : decode cJ3_checkFromIndexSize_8c36e 22 = .ok (.athrow, 1) := by decide +kernel
theorem dJ3_checkFromIndexSize_8c36e_23 : decode cJ3_checkFromIndexSize_8c36e 23 = .ok (.iload_n 0, 1) := by decide +kernel
theorem dJ3_checkFromIndexSize_8c36e_24 : decode cJ3_checkFromIndexSize_8c36e 24 = .ok (.ireturn, 1) := by decide +kernel
theorem dL_cell_0 : decode cL_cell 0 = .ok (.aload_n 0, 1) := by decide +kernel
theorem dL_cell_1 : decode cL_cell 1 = .ok (.arraylength, 1) := by decide +kernel
theorem dL_cell_2 : decode cL_cell 2 = .ok (.ifCond .ne 7, 3) := by decide +kernel
theorem dL_cell_5 : decode cL_cell 5 = .ok (.iconst 0, 1) := by decide +kernel
theorem dL_cell_6 : decode cL_cell 6 = .ok (.goto 17, 3) := by decide +kernel
theorem dL_cell_9 : decode cL_cell 9 = .ok (.aload_n 0, 1) := by decide +kernel
theorem dL_cell_10 : decode cL_cell 10 = .ok (.iload_n 1, 1) := by decide +kernel
theorem dL_cell_11 : decode cL_cell 11 = .ok (.aload_n 0, 1) := by decide +kernel
theorem dL_cell_12 : decode cL_cell 12 = .ok (.arraylength, 1) := by decide +kernel
theorem dL_cell_13 : decode cL_cell 13 = .ok (.irem, 1) := by decide +kernel
theorem dL_cell_14 : decode cL_cell 14 = .ok (.iaload, 1) := by decide +kernel
theorem dL_cell_15 : decode cL_cell 15 = .ok (.ldc 7, 2) := by decide +kernel
theorem dL_cell_17 : decode cL_cell 17 = .ok (.iload_n 1, 1) := by decide +kernel
theorem dL_cell_18 : decode cL_cell 18 = .ok (.aload_n 0, 1) := by decide +kernel
theorem dL_cell_19 : decode cL_cell 19 = .ok (.arraylength, 1) := by decide +kernel
theorem dL_cell_20 : decode cL_cell 20 = .ok (.idiv, 1) := by decide +kernel
theorem dL_cell_21 : decode cL_cell 21 = .ok (.imul, 1) := by decide +kernel
theorem dL_cell_22 : decode cL_cell 22 = .ok (.ixor, 1) := by decide +kernel
theorem dL_cell_23 : decode cL_cell 23 = .ok (.ireturn, 1) := by decide +kernel
theorem dL_some_0 : decode cL_some 0 = .ok (.aload_n 0, 1) := by decide +kernel
theorem dL_some_1 : decode cL_some 1 = .ok (.iload_n 1, 1) := by decide +kernel
theorem dL_some_2 : decode cL_some 2 = .ok (.invokestatic 8, 3) := by decide +kernel
theorem dL_some_5 : decode cL_some 5 = .ok (.ldc 14, 2) := by decide +kernel
theorem dL_some_7 : decode cL_some 7 = .ok (.iand, 1) := by decide +kernel
theorem dL_some_8 : decode cL_some 8 = .ok (.iload_n 2, 1) := by decide +kernel
theorem dL_some_9 : decode cL_some 9 = .ok (.irem, 1) := by decide +kernel
theorem dL_some_10 : decode cL_some 10 = .ok (.ireturn, 1) := by decide +kernel
theorem dL_feeds_0 : decode cL_feeds 0 = .ok (.aload_n 1, 1) := by decide +kernel
theorem dL_feeds_1 : decode cL_feeds 1 = .ok (.invokevirtual 15, 3) := by decide +kernel
theorem dL_feeds_4 : decode cL_feeds 4 = .ok (.istore_n 2, 1) := by decide +kernel
theorem dL_feeds_5 : decode cL_feeds 5 = .ok (.iconst 0, 1) := by decide +kernel
theorem dL_feeds_6 : decode cL_feeds 6 = .ok (.istore_n 3, 1) := by decide +kernel
theorem dL_feeds_7 : decode cL_feeds 7 = .ok (.iload_n 3, 1) := by decide +kernel
theorem dL_feeds_8 : decode cL_feeds 8 = .ok (.iload_n 2, 1) := by decide +kernel
theorem dL_feeds_9 : decode cL_feeds 9 = .ok (.if_icmp .ge 94, 3) := by decide +kernel
theorem dL_feeds_12 : decode cL_feeds 12 = .ok (.iconst 5, 1) := by decide +kernel
theorem dL_feeds_13 : decode cL_feeds 13 = .ok (.newarray .int, 2) := by decide +kernel
theorem dL_feeds_15 : decode cL_feeds 15 = .ok (.astore 4, 2) := by decide +kernel
theorem dL_feeds_17 : decode cL_feeds 17 = .ok (.iconst 0, 1) := by decide +kernel
theorem dL_feeds_18 : decode cL_feeds 18 = .ok (.istore 5, 2) := by decide +kernel
theorem dL_feeds_20 : decode cL_feeds 20 = .ok (.iload 5, 2) := by decide +kernel
theorem dL_feeds_22 : decode cL_feeds 22 = .ok (.bipush 20, 2) := by decide +kernel
theorem dL_feeds_24 : decode cL_feeds 24 = .ok (.if_icmp .ge 48, 3) := by decide +kernel
theorem dL_feeds_27 : decode cL_feeds 27 = .ok (.aload 4, 2) := by decide +kernel
theorem dL_feeds_29 : decode cL_feeds 29 = .ok (.iload 5, 2) := by decide +kernel
theorem dL_feeds_31 : decode cL_feeds 31 = .ok (.iconst 4, 1) := by decide +kernel
theorem dL_feeds_32 : decode cL_feeds 32 = .ok (.idiv, 1) := by decide +kernel
theorem dL_feeds_33 : decode cL_feeds 33 = .ok (.aload 4, 2) := by decide +kernel
theorem dL_feeds_35 : decode cL_feeds 35 = .ok (.iload 5, 2) := by decide +kernel
theorem dL_feeds_37 : decode cL_feeds 37 = .ok (.iconst 4, 1) := by decide +kernel
theorem dL_feeds_38 : decode cL_feeds 38 = .ok (.idiv, 1) := by decide +kernel
theorem dL_feeds_39 : decode cL_feeds 39 = .ok (.iaload, 1) := by decide +kernel
theorem dL_feeds_40 : decode cL_feeds 40 = .ok (.bipush 8, 2) := by decide +kernel
theorem dL_feeds_42 : decode cL_feeds 42 = .ok (.ishl, 1) := by decide +kernel
theorem dL_feeds_43 : decode cL_feeds 43 = .ok (.iload_n 3, 1) := by decide +kernel
theorem dL_feeds_44 : decode cL_feeds 44 = .ok (.iload 5, 2) := by decide +kernel
theorem dL_feeds_46 : decode cL_feeds 46 = .ok (.iadd, 1) := by decide +kernel
theorem dL_feeds_47 : decode cL_feeds 47 = .ok (.iload_n 2, 1) := by decide +kernel
theorem dL_feeds_48 : decode cL_feeds 48 = .ok (.if_icmp .ge 14, 3) := by decide +kernel
theorem dL_feeds_51 : decode cL_feeds 51 = .ok (.aload_n 1, 1) := by decide +kernel
theorem dL_feeds_52 : decode cL_feeds 52 = .ok (.iload_n 3, 1) := by decide +kernel
theorem dL_feeds_53 : decode cL_feeds 53 = .ok (.iload 5, 2) := by decide +kernel
theorem dL_feeds_55 : decode cL_feeds 55 = .ok (.iadd, 1) := by decide +kernel
theorem dL_feeds_56 : decode cL_feeds 56 = .ok (.invokevirtual 21, 3) := by decide +kernel
theorem dL_feeds_59 : decode cL_feeds 59 = .ok (.goto 5, 3) := by decide +kernel
theorem dL_feeds_62 : decode cL_feeds 62 = .ok (.bipush 32, 2) := by decide +kernel
theorem dL_feeds_64 : decode cL_feeds 64 = .ok (.ior, 1) := by decide +kernel
theorem dL_feeds_65 : decode cL_feeds 65 = .ok (.iastore, 1) := by decide +kernel
theorem dL_feeds_66 : decode cL_feeds 66 = .ok (.iinc 5 1, 3) := by decide +kernel
theorem dL_feeds_69 : decode cL_feeds 69 = .ok (.goto (-49), 3) := by decide +kernel
theorem dL_feeds_72 : decode cL_feeds 72 = .ok (.aload_n 0, 1) := by decide +kernel
theorem dL_feeds_73 : decode cL_feeds 73 = .ok (.aload 4, 2) := by decide +kernel
theorem dL_feeds_75 : decode cL_feeds 75 = .ok (.iconst 0, 1) := by decide +kernel
theorem dL_feeds_76 : decode cL_feeds 76 = .ok (.iaload, 1) := by decide +kernel
theorem dL_feeds_77 : decode cL_feeds 77 = .ok (.aload 4, 2) := by decide +kernel
theorem dL_feeds_79 : decode cL_feeds 79 = .ok (.iconst 1, 1) := by decide +kernel
theorem dL_feeds_80 : decode cL_feeds 80 = .ok (.iaload, 1) := by decide +kernel
theorem dL_feeds_81 : decode cL_feeds 81 = .ok (.aload 4, 2) := by decide +kernel
theorem dL_feeds_83 : decode cL_feeds 83 = .ok (.iconst 2, 1) := by decide +kernel
theorem dL_feeds_84 : decode cL_feeds 84 = .ok (.iaload, 1) := by decide +kernel
theorem dL_feeds_85 : decode cL_feeds 85 = .ok (.aload 4, 2) := by decide +kernel
theorem dL_feeds_87 : decode cL_feeds 87 = .ok (.iconst 3, 1) := by decide +kernel
theorem dL_feeds_88 : decode cL_feeds 88 = .ok (.iaload, 1) := by decide +kernel
theorem dL_feeds_89 : decode cL_feeds 89 = .ok (.aload 4, 2) := by decide +kernel
theorem dL_feeds_91 : decode cL_feeds 91 = .ok (.iconst 4, 1) := by decide +kernel
theorem dL_feeds_92 : decode cL_feeds 92 = .ok (.iaload, 1) := by decide +kernel
theorem dL_feeds_93 : decode cL_feeds 93 = .ok (.invokevirtual 25, 3) := by decide +kernel
theorem dL_feeds_96 : decode cL_feeds 96 = .ok (.pop, 1) := by decide +kernel
theorem dL_feeds_97 : decode cL_feeds 97 = .ok (.iinc 3 20, 3) := by decide +kernel
theorem dL_feeds_100 : decode cL_feeds 100 = .ok (.goto (-93), 3) := by decide +kernel
theorem dL_feeds_103 : decode cL_feeds 103 = .ok (.aload_n 0, 1) := by decide +kernel
theorem dL_feeds_104 : decode cL_feeds 104 = .ok (.iload_n 2, 1) := by decide +kernel
theorem dL_feeds_105 : decode cL_feeds 105 = .ok (.invokevirtual 31, 3) := by decide +kernel
theorem dL_feeds_108 : decode cL_feeds 108 = .ok (.ireturn, 1) := by decide +kernel
theorem dL_begins_0 : decode cL_begins 0 = .ok (.new 35, 3) := by decide +kernel
theorem dL_begins_3 : decode cL_begins 3 = .ok (.dup, 1) := by decide +kernel
theorem dL_begins_4 : decode cL_begins 4 = .ok (.invokespecial 37, 3) := by decide +kernel
theorem dL_begins_7 : decode cL_begins 7 = .ok (.astore_n 2, 1) := by decide +kernel
theorem dL_begins_8 : decode cL_begins 8 = .ok (.iconst 0, 1) := by decide +kernel
theorem dL_begins_9 : decode cL_begins 9 = .ok (.istore_n 3, 1) := by decide +kernel
theorem dL_begins_10 : decode cL_begins 10 = .ok (.iload_n 3, 1) := by decide +kernel
theorem dL_begins_11 : decode cL_begins 11 = .ok (.iconst 3, 1) := by decide +kernel
theorem dL_begins_12 : decode cL_begins 12 = .ok (.if_icmp .ge 66, 3) := by decide +kernel
theorem dL_begins_15 : decode cL_begins 15 = .ok (.aload_n 2, 1) := by decide +kernel
theorem dL_begins_16 : decode cL_begins 16 = .ok (.ldc 38, 2) := by decide +kernel
theorem dL_begins_18 : decode cL_begins 18 = .ok (.invokevirtual 40, 3) := by decide +kernel
theorem dL_begins_21 : decode cL_begins 21 = .ok (.bipush 97, 2) := by decide +kernel
theorem dL_begins_23 : decode cL_begins 23 = .ok (.iload_n 3, 1) := by decide +kernel
theorem dL_begins_24 : decode cL_begins 24 = .ok (.iadd, 1) := by decide +kernel
theorem dL_begins_25 : decode cL_begins 25 = .ok (.i2c, 1) := by decide +kernel
theorem dL_begins_26 : decode cL_begins 26 = .ok (.invokevirtual 44, 3) := by decide +kernel
theorem dL_begins_29 : decode cL_begins 29 = .ok (.ldc 47, 2) := by decide +kernel
theorem dL_begins_31 : decode cL_begins 31 = .ok (.invokevirtual 40, 3) := by decide +kernel
theorem dL_begins_34 : decode cL_begins 34 = .ok (.aload_n 1, 1) := by decide +kernel
theorem dL_begins_35 : decode cL_begins 35 = .ok (.iload_n 3, 1) := by decide +kernel
theorem dL_begins_36 : decode cL_begins 36 = .ok (.iconst 3, 1) := by decide +kernel
theorem dL_begins_37 : decode cL_begins 37 = .ok (.invokestatic 49, 3) := by decide +kernel
theorem dL_begins_40 : decode cL_begins 40 = .ok (.invokevirtual 53, 3) := by decide +kernel
theorem dL_begins_43 : decode cL_begins 43 = .ok (.ldc 47, 2) := by decide +kernel
theorem dL_begins_45 : decode cL_begins 45 = .ok (.invokevirtual 40, 3) := by decide +kernel
theorem dL_begins_48 : decode cL_begins 48 = .ok (.aload_n 1, 1) := by decide +kernel
theorem dL_begins_49 : decode cL_begins 49 = .ok (.iload_n 3, 1) := by decide +kernel
theorem dL_begins_50 : decode cL_begins 50 = .ok (.iconst 3, 1) := by decide +kernel
theorem dL_begins_51 : decode cL_begins 51 = .ok (.invokestatic 49, 3) := by decide +kernel
theorem dL_begins_54 : decode cL_begins 54 = .ok (.aload_n 1, 1) := by decide +kernel
theorem dL_begins_55 : decode cL_begins 55 = .ok (.iconst 3, 1) := by decide +kernel
theorem dL_begins_56 : decode cL_begins 56 = .ok (.iload_n 3, 1) := by decide +kernel
theorem dL_begins_57 : decode cL_begins 57 = .ok (.iadd, 1) := by decide +kernel
theorem dL_begins_58 : decode cL_begins 58 = .ok (.iconst 4, 1) := by decide +kernel
theorem dL_begins_59 : decode cL_begins 59 = .ok (.invokestatic 49, 3) := by decide +kernel
theorem dL_begins_62 : decode cL_begins 62 = .ok (.iadd, 1) := by decide +kernel
theorem dL_begins_63 : decode cL_begins 63 = .ok (.invokevirtual 53, 3) := by decide +kernel
theorem dL_begins_66 : decode cL_begins 66 = .ok (.ldc 56, 2) := by decide +kernel
theorem dL_begins_68 : decode cL_begins 68 = .ok (.invokevirtual 40, 3) := by decide +kernel
theorem dL_begins_71 : decode cL_begins 71 = .ok (.pop, 1) := by decide +kernel
theorem dL_begins_72 : decode cL_begins 72 = .ok (.iinc 3 1, 3) := by decide +kernel
theorem dL_begins_75 : decode cL_begins 75 = .ok (.goto (-65), 3) := by decide +kernel
theorem dL_begins_78 : decode cL_begins 78 = .ok (.aload_n 1, 1) := by decide +kernel
theorem dL_begins_79 : decode cL_begins 79 = .ok (.bipush 6, 2) := by decide +kernel
theorem dL_begins_81 : decode cL_begins 81 = .ok (.iconst 3, 1) := by decide +kernel
theorem dL_begins_82 : decode cL_begins 82 = .ok (.invokestatic 49, 3) := by decide +kernel
theorem dL_begins_85 : decode cL_begins 85 = .ok (.istore_n 3, 1) := by decide +kernel
theorem dL_begins_86 : decode cL_begins 86 = .ok (.iconst 0, 1) := by decide +kernel
theorem dL_begins_87 : decode cL_begins 87 = .ok (.istore 4, 2) := by decide +kernel
theorem dL_begins_89 : decode cL_begins 89 = .ok (.iload 4, 2) := by decide +kernel
theorem dL_begins_91 : decode cL_begins 91 = .ok (.iload_n 3, 1) := by decide +kernel
theorem dL_begins_92 : decode cL_begins 92 = .ok (.if_icmp .ge 113, 3) := by decide +kernel
theorem dL_begins_95 : decode cL_begins 95 = .ok (.aload_n 1, 1) := by decide +kernel
theorem dL_begins_96 : decode cL_begins 96 = .ok (.bipush 7, 2) := by decide +kernel
theorem dL_begins_98 : decode cL_begins 98 = .ok (.iload 4, 2) := by decide +kernel
theorem dL_begins_100 : decode cL_begins 100 = .ok (.iadd, 1) := by decide +kernel
theorem dL_begins_101 : decode cL_begins 101 = .ok (.iconst 3, 1) := by decide +kernel
theorem dL_begins_102 : decode cL_begins 102 = .ok (.invokestatic 49, 3) := by decide +kernel
theorem dL_begins_105 : decode cL_begins 105 = .ok (.istore 5, 2) := by decide +kernel
theorem dL_begins_107 : decode cL_begins 107 = .ok (.aload_n 2, 1) := by decide +kernel
theorem dL_begins_108 : decode cL_begins 108 = .ok (.ldc 58, 2) := by decide +kernel
theorem dL_begins_110 : decode cL_begins 110 = .ok (.invokevirtual 40, 3) := by decide +kernel
theorem dL_begins_113 : decode cL_begins 113 = .ok (.bipush 97, 2) := by decide +kernel
theorem dL_begins_115 : decode cL_begins 115 = .ok (.iload 5, 2) := by decide +kernel
theorem dL_begins_117 : decode cL_begins 117 = .ok (.iadd, 1) := by decide +kernel
theorem dL_begins_118 : decode cL_begins 118 = .ok (.i2c, 1) := by decide +kernel
theorem dL_begins_119 : decode cL_begins 119 = .ok (.invokevirtual 44, 3) := by decide +kernel
theorem dL_begins_122 : decode cL_begins 122 = .ok (.ldc 47, 2) := by decide +kernel
theorem dL_begins_124 : decode cL_begins 124 = .ok (.invokevirtual 40, 3) := by decide +kernel
theorem dL_begins_127 : decode cL_begins 127 = .ok (.bipush 10, 2) := by decide +kernel
theorem dL_begins_129 : decode cL_begins 129 = .ok (.aload_n 1, 1) := by decide +kernel
theorem dL_begins_130 : decode cL_begins 130 = .ok (.bipush 9, 2) := by decide +kernel
theorem dL_begins_132 : decode cL_begins 132 = .ok (.iload 4, 2) := by decide +kernel
theorem dL_begins_134 : decode cL_begins 134 = .ok (.iadd, 1) := by decide +kernel
theorem dL_begins_135 : decode cL_begins 135 = .ok (.iconst 4, 1) := by decide +kernel
theorem dL_begins_136 : decode cL_begins 136 = .ok (.invokestatic 49, 3) := by decide +kernel
theorem dL_begins_139 : decode cL_begins 139 = .ok (.iadd, 1) := by decide +kernel
theorem dL_begins_140 : decode cL_begins 140 = .ok (.invokevirtual 53, 3) := by decide +kernel
theorem dL_begins_143 : decode cL_begins 143 = .ok (.ldc 60, 2) := by decide +kernel
theorem dL_begins_145 : decode cL_begins 145 = .ok (.invokevirtual 40, 3) := by decide +kernel
theorem dL_begins_148 : decode cL_begins 148 = .ok (.bipush 97, 2) := by decide +kernel
theorem dL_begins_150 : decode cL_begins 150 = .ok (.iload 5, 2) := by decide +kernel
theorem dL_begins_152 : decode cL_begins 152 = .ok (.iconst 1, 1) := by decide +kernel
theorem dL_begins_153 : decode cL_begins 153 = .ok (.iadd, 1) := by decide +kernel
theorem dL_begins_154 : decode cL_begins 154 = .ok (.aload_n 1, 1) := by decide +kernel
theorem dL_begins_155 : decode cL_begins 155 = .ok (.bipush 11, 2) := by decide +kernel
theorem dL_begins_157 : decode cL_begins 157 = .ok (.iload 4, 2) := by decide +kernel
theorem dL_begins_159 : decode cL_begins 159 = .ok (.iadd, 1) := by decide +kernel
theorem dL_begins_160 : decode cL_begins 160 = .ok (.iconst 2, 1) := by decide +kernel
theorem dL_begins_161 : decode cL_begins 161 = .ok (.invokestatic 49, 3) := by decide +kernel
theorem dL_begins_164 : decode cL_begins 164 = .ok (.iadd, 1) := by decide +kernel
theorem dL_begins_165 : decode cL_begins 165 = .ok (.iconst 3, 1) := by decide +kernel
theorem dL_begins_166 : decode cL_begins 166 = .ok (.irem, 1) := by decide +kernel
theorem dL_begins_167 : decode cL_begins 167 = .ok (.iadd, 1) := by decide +kernel
theorem dL_begins_168 : decode cL_begins 168 = .ok (.i2c, 1) := by decide +kernel
theorem dL_begins_169 : decode cL_begins 169 = .ok (.invokevirtual 44, 3) := by decide +kernel
theorem dL_begins_172 : decode cL_begins 172 = .ok (.ldc 47, 2) := by decide +kernel
theorem dL_begins_174 : decode cL_begins 174 = .ok (.invokevirtual 40, 3) := by decide +kernel
theorem dL_begins_177 : decode cL_begins 177 = .ok (.bipush 10, 2) := by decide +kernel
theorem dL_begins_179 : decode cL_begins 179 = .ok (.aload_n 1, 1) := by decide +kernel
theorem dL_begins_180 : decode cL_begins 180 = .ok (.bipush 13, 2) := by decide +kernel
theorem dL_begins_182 : decode cL_begins 182 = .ok (.iload 4, 2) := by decide +kernel
theorem dL_begins_184 : decode cL_begins 184 = .ok (.iadd, 1) := by decide +kernel
theorem dL_begins_185 : decode cL_begins 185 = .ok (.iconst 4, 1) := by decide +kernel
theorem dL_begins_186 : decode cL_begins 186 = .ok (.invokestatic 49, 3) := by decide +kernel
theorem dL_begins_189 : decode cL_begins 189 = .ok (.iadd, 1) := by decide +kernel
theorem dL_begins_190 : decode cL_begins 190 = .ok (.invokevirtual 53, 3) := by decide +kernel
theorem dL_begins_193 : decode cL_begins 193 = .ok (.ldc 56, 2) := by decide +kernel
theorem dL_begins_195 : decode cL_begins 195 = .ok (.invokevirtual 40, 3) := by decide +kernel
theorem dL_begins_198 : decode cL_begins 198 = .ok (.pop, 1) := by decide +kernel
theorem dL_begins_199 : decode cL_begins 199 = .ok (.iinc 4 1, 3) := by decide +kernel
theorem dL_begins_202 : decode cL_begins 202 = .ok (.goto (-113), 3) := by decide +kernel
theorem dL_begins_205 : decode cL_begins 205 = .ok (.aload_n 2, 1) := by decide +kernel
theorem dL_begins_206 : decode cL_begins 206 = .ok (.ldc 62, 2) := by decide +kernel
theorem dL_begins_208 : decode cL_begins 208 = .ok (.invokevirtual 40, 3) := by decide +kernel
theorem dL_begins_211 : decode cL_begins 211 = .ok (.aload_n 1, 1) := by decide +kernel
theorem dL_begins_212 : decode cL_begins 212 = .ok (.bipush 15, 2) := by decide +kernel
theorem dL_begins_214 : decode cL_begins 214 = .ok (.iconst 3, 1) := by decide +kernel
theorem dL_begins_215 : decode cL_begins 215 = .ok (.invokestatic 49, 3) := by decide +kernel
theorem dL_begins_218 : decode cL_begins 218 = .ok (.invokevirtual 53, 3) := by decide +kernel
theorem dL_begins_221 : decode cL_begins 221 = .ok (.ldc 64, 2) := by decide +kernel
theorem dL_begins_223 : decode cL_begins 223 = .ok (.invokevirtual 40, 3) := by decide +kernel
theorem dL_begins_226 : decode cL_begins 226 = .ok (.aload_n 1, 1) := by decide +kernel
theorem dL_begins_227 : decode cL_begins 227 = .ok (.bipush 16, 2) := by decide +kernel
theorem dL_begins_229 : decode cL_begins 229 = .ok (.iconst 3, 1) := by decide +kernel
theorem dL_begins_230 : decode cL_begins 230 = .ok (.invokestatic 49, 3) := by decide +kernel
theorem dL_begins_233 : decode cL_begins 233 = .ok (.invokevirtual 53, 3) := by decide +kernel
theorem dL_begins_236 : decode cL_begins 236 = .ok (.ldc 56, 2) := by decide +kernel
theorem dL_begins_238 : decode cL_begins 238 = .ok (.invokevirtual 40, 3) := by decide +kernel
theorem dL_begins_241 : decode cL_begins 241 = .ok (.pop, 1) := by decide +kernel
theorem dL_begins_242 : decode cL_begins 242 = .ok (.iconst 0, 1) := by decide +kernel
theorem dL_begins_243 : decode cL_begins 243 = .ok (.istore 4, 2) := by decide +kernel
theorem dL_begins_245 : decode cL_begins 245 = .ok (.iload 4, 2) := by decide +kernel
theorem dL_begins_247 : decode cL_begins 247 = .ok (.iconst 2, 1) := by decide +kernel
theorem dL_begins_248 : decode cL_begins 248 = .ok (.if_icmp .ge 177, 3) := by decide +kernel
theorem dL_begins_251 : decode cL_begins 251 = .ok (.aload_n 1, 1) := by decide +kernel
theorem dL_begins_252 : decode cL_begins 252 = .ok (.bipush 17, 2) := by decide +kernel
theorem dL_begins_254 : decode cL_begins 254 = .ok (.iload 4, 2) := by decide +kernel
theorem dL_begins_256 : decode cL_begins 256 = .ok (.iadd, 1) := by decide +kernel
theorem dL_begins_257 : decode cL_begins 257 = .ok (.iconst 3, 1) := by decide +kernel
theorem dL_begins_258 : decode cL_begins 258 = .ok (.invokestatic 49, 3) := by decide +kernel
theorem dL_begins_261 : decode cL_begins 261 = .ok (.istore 5, 2) := by decide +kernel
theorem dL_begins_263 : decode cL_begins 263 = .ok (.aload_n 2, 1) := by decide +kernel
theorem dL_begins_264 : decode cL_begins 264 = .ok (.ldc 66, 2) := by decide +kernel
theorem dL_begins_266 : decode cL_begins 266 = .ok (.invokevirtual 40, 3) := by decide +kernel
theorem dL_begins_269 : decode cL_begins 269 = .ok (.bipush 97, 2) := by decide +kernel
theorem dL_begins_271 : decode cL_begins 271 = .ok (.iload 4, 2) := by decide +kernel
theorem dL_begins_273 : decode cL_begins 273 = .ok (.iadd, 1) := by decide +kernel
theorem dL_begins_274 : decode cL_begins 274 = .ok (.i2c, 1) := by decide +kernel
theorem dL_begins_275 : decode cL_begins 275 = .ok (.invokevirtual 44, 3) := by decide +kernel
theorem dL_begins_278 : decode cL_begins 278 = .ok (.ldc 47, 2) := by decide +kernel
theorem dL_begins_280 : decode cL_begins 280 = .ok (.invokevirtual 40, 3) := by decide +kernel
theorem dL_begins_283 : decode cL_begins 283 = .ok (.iconst 1, 1) := by decide +kernel
theorem dL_begins_284 : decode cL_begins 284 = .ok (.aload_n 1, 1) := by decide +kernel
theorem dL_begins_285 : decode cL_begins 285 = .ok (.bipush 19, 2) := by decide +kernel
theorem dL_begins_287 : decode cL_begins 287 = .ok (.iload 4, 2) := by decide +kernel
theorem dL_begins_289 : decode cL_begins 289 = .ok (.iadd, 1) := by decide +kernel
theorem dL_begins_290 : decode cL_begins 290 = .ok (.bipush 40, 2) := by decide +kernel
theorem dL_begins_292 : decode cL_begins 292 = .ok (.invokestatic 49, 3) := by decide +kernel
theorem dL_begins_295 : decode cL_begins 295 = .ok (.iadd, 1) := by decide +kernel
theorem dL_begins_296 : decode cL_begins 296 = .ok (.invokevirtual 53, 3) := by decide +kernel
theorem dL_begins_299 : decode cL_begins 299 = .ok (.pop, 1) := by decide +kernel
theorem dL_begins_300 : decode cL_begins 300 = .ok (.aload_n 1, 1) := by decide +kernel
theorem dL_begins_301 : decode cL_begins 301 = .ok (.bipush 21, 2) := by decide +kernel
theorem dL_begins_303 : decode cL_begins 303 = .ok (.iload 4, 2) := by decide +kernel
theorem dL_begins_305 : decode cL_begins 305 = .ok (.iadd, 1) := by decide +kernel
theorem dL_begins_306 : decode cL_begins 306 = .ok (.iconst 3, 1) := by decide +kernel
theorem dL_begins_307 : decode cL_begins 307 = .ok (.invokestatic 49, 3) := by decide +kernel
theorem dL_begins_310 : decode cL_begins 310 = .ok (.ifCond .ne 10, 3) := by decide +kernel
theorem dL_begins_313 : decode cL_begins 313 = .ok (.aload_n 2, 1) := by decide +kernel
theorem dL_begins_314 : decode cL_begins 314 = .ok (.ldc 68, 2) := by decide +kernel
theorem dL_begins_316 : decode cL_begins 316 = .ok (.invokevirtual 40, 3) := by decide +kernel
theorem dL_begins_319 : decode cL_begins 319 = .ok (.pop, 1) := by decide +kernel
theorem dL_begins_320 : decode cL_begins 320 = .ok (.aload_n 1, 1) := by decide +kernel
theorem dL_begins_321 : decode cL_begins 321 = .ok (.bipush 23, 2) := by decide +kernel
theorem dL_begins_323 : decode cL_begins 323 = .ok (.iload 4, 2) := by decide +kernel
theorem dL_begins_325 : decode cL_begins 325 = .ok (.iadd, 1) := by decide +kernel
theorem dL_begins_326 : decode cL_begins 326 = .ok (.iconst 2, 1) := by decide +kernel
theorem dL_begins_327 : decode cL_begins 327 = .ok (.invokestatic 49, 3) := by decide +kernel
theorem dL_begins_330 : decode cL_begins 330 = .ok (.ifCond .ne 10, 3) := by decide +kernel
theorem dL_begins_333 : decode cL_begins 333 = .ok (.aload_n 2, 1) := by decide +kernel
theorem dL_begins_334 : decode cL_begins 334 = .ok (.ldc 70, 2) := by decide +kernel
theorem dL_begins_336 : decode cL_begins 336 = .ok (.invokevirtual 40, 3) := by decide +kernel
theorem dL_begins_339 : decode cL_begins 339 = .ok (.pop, 1) := by decide +kernel
theorem dL_begins_340 : decode cL_begins 340 = .ok (.aload_n 2, 1) := by decide +kernel
theorem dL_begins_341 : decode cL_begins 341 = .ok (.ldc 47, 2) := by decide +kernel
theorem dL_begins_343 : decode cL_begins 343 = .ok (.invokevirtual 40, 3) := by decide +kernel
theorem dL_begins_346 : decode cL_begins 346 = .ok (.iload 5, 2) := by decide +kernel
theorem dL_begins_348 : decode cL_begins 348 = .ok (.invokevirtual 53, 3) := by decide +kernel
theorem dL_begins_351 : decode cL_begins 351 = .ok (.ldc 72, 2) := by decide +kernel
theorem dL_begins_353 : decode cL_begins 353 = .ok (.invokevirtual 40, 3) := by decide +kernel
theorem dL_begins_356 : decode cL_begins 356 = .ok (.iload 5, 2) := by decide +kernel
theorem dL_begins_358 : decode cL_begins 358 = .ok (.iconst 1, 1) := by decide +kernel
theorem dL_begins_359 : decode cL_begins 359 = .ok (.iadd, 1) := by decide +kernel
theorem dL_begins_360 : decode cL_begins 360 = .ok (.aload_n 1, 1) := by decide +kernel
theorem dL_begins_361 : decode cL_begins 361 = .ok (.bipush 25, 2) := by decide +kernel
theorem dL_begins_363 : decode cL_begins 363 = .ok (.iload 4, 2) := by decide +kernel
theorem dL_begins_365 : decode cL_begins 365 = .ok (.iadd, 1) := by decide +kernel
theorem dL_begins_366 : decode cL_begins 366 = .ok (.iconst 2, 1) := by decide +kernel
theorem dL_begins_367 : decode cL_begins 367 = .ok (.invokestatic 49, 3) := by decide +kernel
theorem dL_begins_370 : decode cL_begins 370 = .ok (.iadd, 1) := by decide +kernel
theorem dL_begins_371 : decode cL_begins 371 = .ok (.iconst 3, 1) := by decide +kernel
theorem dL_begins_372 : decode cL_begins 372 = .ok (.irem, 1) := by decide +kernel
theorem dL_begins_373 : decode cL_begins 373 = .ok (.invokevirtual 53, 3) := by decide +kernel
theorem dL_begins_376 : decode cL_begins 376 = .ok (.pop, 1) := by decide +kernel
theorem dL_begins_377 : decode cL_begins 377 = .ok (.aload_n 1, 1) := by decide +kernel
theorem dL_begins_378 : decode cL_begins 378 = .ok (.bipush 27, 2) := by decide +kernel
theorem dL_begins_380 : decode cL_begins 380 = .ok (.iload 4, 2) := by decide +kernel
theorem dL_begins_382 : decode cL_begins 382 = .ok (.iadd, 1) := by decide +kernel
theorem dL_begins_383 : decode cL_begins 383 = .ok (.iconst 3, 1) := by decide +kernel
theorem dL_begins_384 : decode cL_begins 384 = .ok (.invokestatic 49, 3) := by decide +kernel
theorem dL_begins_387 : decode cL_begins 387 = .ok (.ifCond .ne 25, 3) := by decide +kernel
theorem dL_begins_390 : decode cL_begins 390 = .ok (.aload_n 2, 1) := by decide +kernel
theorem dL_begins_391 : decode cL_begins 391 = .ok (.ldc 74, 2) := by decide +kernel
theorem dL_begins_393 : decode cL_begins 393 = .ok (.invokevirtual 40, 3) := by decide +kernel
theorem dL_begins_396 : decode cL_begins 396 = .ok (.iconst 1, 1) := by decide +kernel
theorem dL_begins_397 : decode cL_begins 397 = .ok (.aload_n 1, 1) := by decide +kernel
theorem dL_begins_398 : decode cL_begins 398 = .ok (.bipush 29, 2) := by decide +kernel
theorem dL_begins_400 : decode cL_begins 400 = .ok (.iload 4, 2) := by decide +kernel
theorem dL_begins_402 : decode cL_begins 402 = .ok (.iadd, 1) := by decide +kernel
theorem dL_begins_403 : decode cL_begins 403 = .ok (.iconst 2, 1) := by decide +kernel
theorem dL_begins_404 : decode cL_begins 404 = .ok (.invokestatic 49, 3) := by decide +kernel
theorem dL_begins_407 : decode cL_begins 407 = .ok (.iadd, 1) := by decide +kernel
theorem dL_begins_408 : decode cL_begins 408 = .ok (.invokevirtual 53, 3) := by decide +kernel
theorem dL_begins_411 : decode cL_begins 411 = .ok (.pop, 1) := by decide +kernel
theorem dL_begins_412 : decode cL_begins 412 = .ok (.aload_n 2, 1) := by decide +kernel
theorem dL_begins_413 : decode cL_begins 413 = .ok (.ldc 56, 2) := by decide +kernel
theorem dL_begins_415 : decode cL_begins 415 = .ok (.invokevirtual 40, 3) := by decide +kernel
theorem dL_begins_418 : decode cL_begins 418 = .ok (.pop, 1) := by decide +kernel
theorem dL_begins_419 : decode cL_begins 419 = .ok (.iinc 4 1, 3) := by decide +kernel
theorem dL_begins_422 : decode cL_begins 422 = .ok (.goto (-177), 3) := by decide +kernel
theorem dL_begins_425 : decode cL_begins 425 = .ok (.aload_n 2, 1) := by decide +kernel
theorem dL_begins_426 : decode cL_begins 426 = .ok (.ldc 76, 2) := by decide +kernel
theorem dL_begins_428 : decode cL_begins 428 = .ok (.invokevirtual 40, 3) := by decide +kernel
theorem dL_begins_431 : decode cL_begins 431 = .ok (.iconst 1, 1) := by decide +kernel
theorem dL_begins_432 : decode cL_begins 432 = .ok (.aload_n 1, 1) := by decide +kernel
theorem dL_begins_433 : decode cL_begins 433 = .ok (.bipush 31, 2) := by decide +kernel
theorem dL_begins_435 : decode cL_begins 435 = .ok (.iconst 2, 1) := by decide +kernel
theorem dL_begins_436 : decode cL_begins 436 = .ok (.invokestatic 49, 3) := by decide +kernel
theorem dL_begins_439 : decode cL_begins 439 = .ok (.iadd, 1) := by decide +kernel
theorem dL_begins_440 : decode cL_begins 440 = .ok (.invokevirtual 53, 3) := by decide +kernel
theorem dL_begins_443 : decode cL_begins 443 = .ok (.ldc 78, 2) := by decide +kernel
theorem dL_begins_445 : decode cL_begins 445 = .ok (.invokevirtual 40, 3) := by decide +kernel
theorem dL_begins_448 : decode cL_begins 448 = .ok (.iconst 1, 1) := by decide +kernel
theorem dL_begins_449 : decode cL_begins 449 = .ok (.aload_n 1, 1) := by decide +kernel
theorem dL_begins_450 : decode cL_begins 450 = .ok (.bipush 32, 2) := by decide +kernel
theorem dL_begins_452 : decode cL_begins 452 = .ok (.iconst 3, 1) := by decide +kernel
theorem dL_begins_453 : decode cL_begins 453 = .ok (.invokestatic 49, 3) := by decide +kernel
theorem dL_begins_456 : decode cL_begins 456 = .ok (.iadd, 1) := by decide +kernel
theorem dL_begins_457 : decode cL_begins 457 = .ok (.invokevirtual 53, 3) := by decide +kernel
theorem dL_begins_460 : decode cL_begins 460 = .ok (.ldc 80, 2) := by decide +kernel
theorem dL_begins_462 : decode cL_begins 462 = .ok (.invokevirtual 40, 3) := by decide +kernel
theorem dL_begins_465 : decode cL_begins 465 = .ok (.pop, 1) := by decide +kernel
theorem dL_begins_466 : decode cL_begins 466 = .ok (.iconst 3, 1) := by decide +kernel
theorem dL_begins_467 : decode cL_begins 467 = .ok (.aload_n 1, 1) := by decide +kernel
theorem dL_begins_468 : decode cL_begins 468 = .ok (.bipush 33, 2) := by decide +kernel
theorem dL_begins_470 : decode cL_begins 470 = .ok (.iconst 2, 1) := by decide +kernel
theorem dL_begins_471 : decode cL_begins 471 = .ok (.invokestatic 49, 3) := by decide +kernel
theorem dL_begins_474 : decode cL_begins 474 = .ok (.iadd, 1) := by decide +kernel
theorem dL_begins_475 : decode cL_begins 475 = .ok (.istore 4, 2) := by decide +kernel
theorem dL_begins_477 : decode cL_begins 477 = .ok (.iconst 0, 1) := by decide +kernel
theorem dL_begins_478 : decode cL_begins 478 = .ok (.istore 5, 2) := by decide +kernel
theorem dL_begins_480 : decode cL_begins 480 = .ok (.iconst 0, 1) := by decide +kernel
theorem dL_begins_481 : decode cL_begins 481 = .ok (.istore 6, 2) := by decide +kernel
theorem dL_begins_483 : decode cL_begins 483 = .ok (.iload 6, 2) := by decide +kernel
theorem dL_begins_485 : decode cL_begins 485 = .ok (.iload 4, 2) := by decide +kernel
theorem dL_begins_487 : decode cL_begins 487 = .ok (.if_icmp .ge 309, 3) := by decide +kernel
theorem dL_begins_490 : decode cL_begins 490 = .ok (.iload 5, 2) := by decide +kernel
theorem dL_begins_492 : decode cL_begins 492 = .ok (.aload_n 1, 1) := by decide +kernel
theorem dL_begins_493 : decode cL_begins 493 = .ok (.bipush 34, 2) := by decide +kernel
theorem dL_begins_495 : decode cL_begins 495 = .ok (.iload 6, 2) := by decide +kernel
theorem dL_begins_497 : decode cL_begins 497 = .ok (.iadd, 1) := by decide +kernel
theorem dL_begins_498 : decode cL_begins 498 = .ok (.iconst 3, 1) := by decide +kernel
theorem dL_begins_499 : decode cL_begins 499 = .ok (.invokestatic 49, 3) := by decide +kernel
theorem dL_begins_502 : decode cL_begins 502 = .ok (.iadd, 1) := by decide +kernel
theorem dL_begins_503 : decode cL_begins 503 = .ok (.istore 5, 2) := by decide +kernel
theorem dL_begins_505 : decode cL_begins 505 = .ok (.aload_n 2, 1) := by decide +kernel
theorem dL_begins_506 : decode cL_begins 506 = .ok (.ldc 82, 2) := by decide +kernel
theorem dL_begins_508 : decode cL_begins 508 = .ok (.invokevirtual 40, 3) := by decide +kernel
theorem dL_begins_511 : decode cL_begins 511 = .ok (.bipush 97, 2) := by decide +kernel
theorem dL_begins_513 : decode cL_begins 513 = .ok (.iload 6, 2) := by decide +kernel
theorem dL_begins_515 : decode cL_begins 515 = .ok (.iadd, 1) := by decide +kernel
theorem dL_begins_516 : decode cL_begins 516 = .ok (.i2c, 1) := by decide +kernel
theorem dL_begins_517 : decode cL_begins 517 = .ok (.invokevirtual 44, 3) := by decide +kernel
theorem dL_begins_520 : decode cL_begins 520 = .ok (.ldc 47, 2) := by decide +kernel
theorem dL_begins_522 : decode cL_begins 522 = .ok (.invokevirtual 40, 3) := by decide +kernel
theorem dL_begins_525 : decode cL_begins 525 = .ok (.iload 5, 2) := by decide +kernel
theorem dL_begins_527 : decode cL_begins 527 = .ok (.invokevirtual 53, 3) := by decide +kernel
theorem dL_begins_530 : decode cL_begins 530 = .ok (.ldc 84, 2) := by decide +kernel
theorem dL_begins_532 : decode cL_begins 532 = .ok (.invokevirtual 40, 3) := by decide +kernel
theorem dL_begins_535 : decode cL_begins 535 = .ok (.bipush 97, 2) := by decide +kernel
theorem dL_begins_537 : decode cL_begins 537 = .ok (.aload_n 1, 1) := by decide +kernel
theorem dL_begins_538 : decode cL_begins 538 = .ok (.bipush 40, 2) := by decide +kernel
theorem dL_begins_540 : decode cL_begins 540 = .ok (.iload 6, 2) := by decide +kernel
theorem dL_begins_542 : decode cL_begins 542 = .ok (.iadd, 1) := by decide +kernel
theorem dL_begins_543 : decode cL_begins 543 = .ok (.iconst 2, 1) := by decide +kernel
theorem dL_begins_544 : decode cL_begins 544 = .ok (.invokestatic 49, 3) := by decide +kernel
theorem dL_begins_547 : decode cL_begins 547 = .ok (.iadd, 1) := by decide +kernel
theorem dL_begins_548 : decode cL_begins 548 = .ok (.i2c, 1) := by decide +kernel
theorem dL_begins_549 : decode cL_begins 549 = .ok (.invokevirtual 44, 3) := by decide +kernel
theorem dL_begins_552 : decode cL_begins 552 = .ok (.ldc 86, 2) := by decide +kernel
theorem dL_begins_554 : decode cL_begins 554 = .ok (.invokevirtual 40, 3) := by decide +kernel
theorem dL_begins_557 : decode cL_begins 557 = .ok (.bipush 97, 2) := by decide +kernel
theorem dL_begins_559 : decode cL_begins 559 = .ok (.aload_n 1, 1) := by decide +kernel
theorem dL_begins_560 : decode cL_begins 560 = .ok (.bipush 46, 2) := by decide +kernel
theorem dL_begins_562 : decode cL_begins 562 = .ok (.iload 6, 2) := by decide +kernel
theorem dL_begins_564 : decode cL_begins 564 = .ok (.iadd, 1) := by decide +kernel
theorem dL_begins_565 : decode cL_begins 565 = .ok (.iconst 2, 1) := by decide +kernel
theorem dL_begins_566 : decode cL_begins 566 = .ok (.invokestatic 49, 3) := by decide +kernel
theorem dL_begins_569 : decode cL_begins 569 = .ok (.iadd, 1) := by decide +kernel
theorem dL_begins_570 : decode cL_begins 570 = .ok (.i2c, 1) := by decide +kernel
theorem dL_begins_571 : decode cL_begins 571 = .ok (.invokevirtual 44, 3) := by decide +kernel
theorem dL_begins_574 : decode cL_begins 574 = .ok (.pop, 1) := by decide +kernel
theorem dL_begins_575 : decode cL_begins 575 = .ok (.aload_n 2, 1) := by decide +kernel
theorem dL_begins_576 : decode cL_begins 576 = .ok (.ldc 47, 2) := by decide +kernel
theorem dL_begins_578 : decode cL_begins 578 = .ok (.invokevirtual 40, 3) := by decide +kernel
theorem dL_begins_581 : decode cL_begins 581 = .ok (.aload_n 1, 1) := by decide +kernel
theorem dL_begins_582 : decode cL_begins 582 = .ok (.bipush 52, 2) := by decide +kernel
theorem dL_begins_584 : decode cL_begins 584 = .ok (.iload 6, 2) := by decide +kernel
theorem dL_begins_586 : decode cL_begins 586 = .ok (.iadd, 1) := by decide +kernel
theorem dL_begins_587 : decode cL_begins 587 = .ok (.bipush 8, 2) := by decide +kernel
theorem dL_begins_589 : decode cL_begins 589 = .ok (.invokestatic 49, 3) := by decide +kernel
theorem dL_begins_592 : decode cL_begins 592 = .ok (.invokevirtual 53, 3) := by decide +kernel
theorem dL_begins_595 : decode cL_begins 595 = .ok (.aload_n 1, 1) := by decide +kernel
theorem dL_begins_596 : decode cL_begins 596 = .ok (.bipush 58, 2) := by decide +kernel
theorem dL_begins_598 : decode cL_begins 598 = .ok (.iload 6, 2) := by decide +kernel
theorem dL_begins_600 : decode cL_begins 600 = .ok (.iadd, 1) := by decide +kernel
theorem dL_begins_601 : decode cL_begins 601 = .ok (.iconst 2, 1) := by decide +kernel
theorem dL_begins_602 : decode cL_begins 602 = .ok (.invokestatic 49, 3) := by decide +kernel
theorem dL_begins_605 : decode cL_begins 605 = .ok (.ifCond .ne 8, 3) := by decide +kernel
theorem dL_begins_608 : decode cL_begins 608 = .ok (.ldc 88, 2) := by decide +kernel
theorem dL_begins_610 : decode cL_begins 610 = .ok (.goto 5, 3) := by decide +kernel
theorem dL_begins_613 : decode cL_begins 613 = .ok (.ldc 90, 2) := by decide +kernel
theorem dL_begins_615 : decode cL_begins 615 = .ok (.invokevirtual 40, 3) := by decide +kernel
theorem dL_begins_618 : decode cL_begins 618 = .ok (.pop, 1) := by decide +kernel
theorem dL_begins_619 : decode cL_begins 619 = .ok (.iconst 0, 1) := by decide +kernel
theorem dL_begins_620 : decode cL_begins 620 = .ok (.istore 7, 2) := by decide +kernel
theorem dL_begins_622 : decode cL_begins 622 = .ok (.iload 7, 2) := by decide +kernel
theorem dL_begins_624 : decode cL_begins 624 = .ok (.aload_n 1, 1) := by decide +kernel
theorem dL_begins_625 : decode cL_begins 625 = .ok (.bipush 64, 2) := by decide +kernel
theorem dL_begins_627 : decode cL_begins 627 = .ok (.iload 6, 2) := by decide +kernel
theorem dL_begins_629 : decode cL_begins 629 = .ok (.iadd, 1) := by decide +kernel
theorem dL_begins_630 : decode cL_begins 630 = .ok (.iconst 5, 1) := by decide +kernel
theorem dL_begins_631 : decode cL_begins 631 = .ok (.invokestatic 49, 3) := by decide +kernel
theorem dL_begins_634 : decode cL_begins 634 = .ok (.if_icmp .ge 149, 3) := by decide +kernel
theorem dL_begins_637 : decode cL_begins 637 = .ok (.bipush 70, 2) := by decide +kernel
theorem dL_begins_639 : decode cL_begins 639 = .ok (.bipush 20, 2) := by decide +kernel
theorem dL_begins_641 : decode cL_begins 641 = .ok (.iload 6, 2) := by decide +kernel
theorem dL_begins_643 : decode cL_begins 643 = .ok (.imul, 1) := by decide +kernel
theorem dL_begins_644 : decode cL_begins 644 = .ok (.iadd, 1) := by decide +kernel
theorem dL_begins_645 : decode cL_begins 645 = .ok (.iconst 5, 1) := by decide +kernel
theorem dL_begins_646 : decode cL_begins 646 = .ok (.iload 7, 2) := by decide +kernel
theorem dL_begins_648 : decode cL_begins 648 = .ok (.imul, 1) := by decide +kernel
theorem dL_begins_649 : decode cL_begins 649 = .ok (.iadd, 1) := by decide +kernel
theorem dL_begins_650 : decode cL_begins 650 = .ok (.istore 8, 2) := by decide +kernel
theorem dL_begins_652 : decode cL_begins 652 = .ok (.aload_n 1, 1) := by decide +kernel
theorem dL_begins_653 : decode cL_begins 653 = .ok (.iload 8, 2) := by decide +kernel
theorem dL_begins_655 : decode cL_begins 655 = .ok (.iconst 3, 1) := by decide +kernel
theorem dL_begins_656 : decode cL_begins 656 = .ok (.invokestatic 49, 3) := by decide +kernel
theorem dL_begins_659 : decode cL_begins 659 = .ok (.istore 9, 2) := by decide +kernel
theorem dL_begins_661 : decode cL_begins 661 = .ok (.aload_n 2, 1) := by decide +kernel
theorem dL_begins_662 : decode cL_begins 662 = .ok (.ldc 60, 2) := by decide +kernel
theorem dL_begins_664 : decode cL_begins 664 = .ok (.invokevirtual 40, 3) := by decide +kernel
theorem dL_begins_667 : decode cL_begins 667 = .ok (.bipush 97, 2) := by decide +kernel
theorem dL_begins_669 : decode cL_begins 669 = .ok (.aload_n 1, 1) := by decide +kernel
theorem dL_begins_670 : decode cL_begins 670 = .ok (.iload 8, 2) := by decide +kernel
theorem dL_begins_672 : decode cL_begins 672 = .ok (.iconst 1, 1) := by decide +kernel
theorem dL_begins_673 : decode cL_begins 673 = .ok (.iadd, 1) := by decide +kernel
theorem dL_begins_674 : decode cL_begins 674 = .ok (.iconst 3, 1) := by decide +kernel
theorem dL_begins_675 : decode cL_begins 675 = .ok (.invokestatic 49, 3) := by decide +kernel
theorem dL_begins_678 : decode cL_begins 678 = .ok (.iadd, 1) := by decide +kernel
theorem dL_begins_679 : decode cL_begins 679 = .ok (.i2c, 1) := by decide +kernel
theorem dL_begins_680 : decode cL_begins 680 = .ok (.invokevirtual 44, 3) := by decide +kernel
theorem dL_begins_683 : decode cL_begins 683 = .ok (.ldc 47, 2) := by decide +kernel
theorem dL_begins_685 : decode cL_begins 685 = .ok (.invokevirtual 40, 3) := by decide +kernel
theorem dL_begins_688 : decode cL_begins 688 = .ok (.bipush 8, 2) := by decide +kernel
theorem dL_begins_690 : decode cL_begins 690 = .ok (.aload_n 1, 1) := by decide +kernel
theorem dL_begins_691 : decode cL_begins 691 = .ok (.iload 8, 2) := by decide +kernel
theorem dL_begins_693 : decode cL_begins 693 = .ok (.iconst 2, 1) := by decide +kernel
theorem dL_begins_694 : decode cL_begins 694 = .ok (.iadd, 1) := by decide +kernel
theorem dL_begins_695 : decode cL_begins 695 = .ok (.bipush 9, 2) := by decide +kernel
theorem dL_begins_697 : decode cL_begins 697 = .ok (.invokestatic 49, 3) := by decide +kernel
theorem dL_begins_700 : decode cL_begins 700 = .ok (.iadd, 1) := by decide +kernel
theorem dL_begins_701 : decode cL_begins 701 = .ok (.invokevirtual 53, 3) := by decide +kernel
theorem dL_begins_704 : decode cL_begins 704 = .ok (.aload_n 1, 1) := by decide +kernel
theorem dL_begins_705 : decode cL_begins 705 = .ok (.iload 8, 2) := by decide +kernel
theorem dL_begins_707 : decode cL_begins 707 = .ok (.iconst 3, 1) := by decide +kernel
theorem dL_begins_708 : decode cL_begins 708 = .ok (.iadd, 1) := by decide +kernel
theorem dL_begins_709 : decode cL_begins 709 = .ok (.iconst 2, 1) := by decide +kernel
theorem dL_begins_710 : decode cL_begins 710 = .ok (.invokestatic 49, 3) := by decide +kernel
theorem dL_begins_713 : decode cL_begins 713 = .ok (.ifCond .ne 8, 3) := by decide +kernel
theorem dL_begins_716 : decode cL_begins 716 = .ok (.ldc 92, 2) := by decide +kernel
theorem dL_begins_718 : decode cL_begins 718 = .ok (.goto 5, 3) := by decide +kernel
theorem dL_begins_721 : decode cL_begins 721 = .ok (.ldc 94, 2) := by decide +kernel
theorem dL_begins_723 : decode cL_begins 723 = .ok (.invokevirtual 40, 3) := by decide +kernel
theorem dL_begins_726 : decode cL_begins 726 = .ok (.iload 9, 2) := by decide +kernel
theorem dL_begins_728 : decode cL_begins 728 = .ok (.invokevirtual 53, 3) := by decide +kernel
theorem dL_begins_731 : decode cL_begins 731 = .ok (.pop, 1) := by decide +kernel
theorem dL_begins_732 : decode cL_begins 732 = .ok (.aload_n 1, 1) := by decide +kernel
theorem dL_begins_733 : decode cL_begins 733 = .ok (.iload 8, 2) := by decide +kernel
theorem dL_begins_735 : decode cL_begins 735 = .ok (.iconst 4, 1) := by decide +kernel
theorem dL_begins_736 : decode cL_begins 736 = .ok (.iadd, 1) := by decide +kernel
theorem dL_begins_737 : decode cL_begins 737 = .ok (.iconst 2, 1) := by decide +kernel
theorem dL_begins_738 : decode cL_begins 738 = .ok (.invokestatic 49, 3) := by decide +kernel
theorem dL_begins_741 : decode cL_begins 741 = .ok (.ifCond .ne 36, 3) := by decide +kernel
theorem dL_begins_744 : decode cL_begins 744 = .ok (.aload_n 2, 1) := by decide +kernel
theorem dL_begins_745 : decode cL_begins 745 = .ok (.aload_n 1, 1) := by decide +kernel
theorem dL_begins_746 : decode cL_begins 746 = .ok (.iload 8, 2) := by decide +kernel
theorem dL_begins_748 : decode cL_begins 748 = .ok (.iconst 3, 1) := by decide +kernel
theorem dL_begins_749 : decode cL_begins 749 = .ok (.iadd, 1) := by decide +kernel
theorem dL_begins_750 : decode cL_begins 750 = .ok (.iconst 3, 1) := by decide +kernel
theorem dL_begins_751 : decode cL_begins 751 = .ok (.invokestatic 49, 3) := by decide +kernel
theorem dL_begins_754 : decode cL_begins 754 = .ok (.ifCond .ne 8, 3) := by decide +kernel
theorem dL_begins_757 : decode cL_begins 757 = .ok (.ldc 92, 2) := by decide +kernel
theorem dL_begins_759 : decode cL_begins 759 = .ok (.goto 5, 3) := by decide +kernel
theorem dL_begins_762 : decode cL_begins 762 = .ok (.ldc 94, 2) := by decide +kernel
theorem dL_begins_764 : decode cL_begins 764 = .ok (.invokevirtual 40, 3) := by decide +kernel
theorem dL_begins_767 : decode cL_begins 767 = .ok (.iload 9, 2) := by decide +kernel
theorem dL_begins_769 : decode cL_begins 769 = .ok (.iconst 1, 1) := by decide +kernel
theorem dL_begins_770 : decode cL_begins 770 = .ok (.iadd, 1) := by decide +kernel
theorem dL_begins_771 : decode cL_begins 771 = .ok (.iconst 3, 1) := by decide +kernel
theorem dL_begins_772 : decode cL_begins 772 = .ok (.irem, 1) := by decide +kernel
theorem dL_begins_773 : decode cL_begins 773 = .ok (.invokevirtual 53, 3) := by decide +kernel
theorem dL_begins_776 : decode cL_begins 776 = .ok (.pop, 1) := by decide +kernel
theorem dL_begins_777 : decode cL_begins 777 = .ok (.iinc 7 1, 3) := by decide +kernel
theorem dL_begins_780 : decode cL_begins 780 = .ok (.goto (-158), 3) := by decide +kernel
theorem dL_begins_783 : decode cL_begins 783 = .ok (.aload_n 2, 1) := by decide +kernel
theorem dL_begins_784 : decode cL_begins 784 = .ok (.ldc 56, 2) := by decide +kernel
theorem dL_begins_786 : decode cL_begins 786 = .ok (.invokevirtual 40, 3) := by decide +kernel
theorem dL_begins_789 : decode cL_begins 789 = .ok (.pop, 1) := by decide +kernel
theorem dL_begins_790 : decode cL_begins 790 = .ok (.iinc 6 1, 3) := by decide +kernel
theorem dL_begins_793 : decode cL_begins 793 = .ok (.goto (-310), 3) := by decide +kernel
theorem dL_begins_796 : decode cL_begins 796 = .ok (.aload_n 2, 1) := by decide +kernel
theorem dL_begins_797 : decode cL_begins 797 = .ok (.ldc 96, 2) := by decide +kernel
theorem dL_begins_799 : decode cL_begins 799 = .ok (.invokevirtual 40, 3) := by decide +kernel
theorem dL_begins_802 : decode cL_begins 802 = .ok (.bipush 20, 2) := by decide +kernel
theorem dL_begins_804 : decode cL_begins 804 = .ok (.aload_n 1, 1) := by decide +kernel
theorem dL_begins_805 : decode cL_begins 805 = .ok (.sipush 180, 3) := by decide +kernel
theorem dL_begins_808 : decode cL_begins 808 = .ok (.bipush 100, 2) := by decide +kernel
theorem dL_begins_810 : decode cL_begins 810 = .ok (.invokestatic 49, 3) := by decide +kernel
theorem dL_begins_813 : decode cL_begins 813 = .ok (.iadd, 1) := by decide +kernel
theorem dL_begins_814 : decode cL_begins 814 = .ok (.invokevirtual 53, 3) := by decide +kernel
theorem dL_begins_817 : decode cL_begins 817 = .ok (.ldc 98, 2) := by decide +kernel
theorem dL_begins_819 : decode cL_begins 819 = .ok (.invokevirtual 40, 3) := by decide +kernel
theorem dL_begins_822 : decode cL_begins 822 = .ok (.aload_n 1, 1) := by decide +kernel
theorem dL_begins_823 : decode cL_begins 823 = .ok (.sipush 181, 3) := by decide +kernel
theorem dL_begins_826 : decode cL_begins 826 = .ok (.iconst 3, 1) := by decide +kernel
theorem dL_begins_827 : decode cL_begins 827 = .ok (.invokestatic 49, 3) := by decide +kernel
theorem dL_begins_830 : decode cL_begins 830 = .ok (.invokevirtual 53, 3) := by decide +kernel
theorem dL_begins_833 : decode cL_begins 833 = .ok (.ldc 100, 2) := by decide +kernel
theorem dL_begins_835 : decode cL_begins 835 = .ok (.invokevirtual 40, 3) := by decide +kernel
theorem dL_begins_838 : decode cL_begins 838 = .ok (.aload_n 1, 1) := by decide +kernel
theorem dL_begins_839 : decode cL_begins 839 = .ok (.sipush 182, 3) := by decide +kernel
theorem dL_begins_842 : decode cL_begins 842 = .ok (.bipush 12, 2) := by decide +kernel
theorem dL_begins_844 : decode cL_begins 844 = .ok (.invokestatic 49, 3) := by decide +kernel
theorem dL_begins_847 : decode cL_begins 847 = .ok (.invokevirtual 53, 3) := by decide +kernel
theorem dL_begins_850 : decode cL_begins 850 = .ok (.ldc 102, 2) := by decide +kernel
theorem dL_begins_852 : decode cL_begins 852 = .ok (.invokevirtual 40, 3) := by decide +kernel
theorem dL_begins_855 : decode cL_begins 855 = .ok (.aload_n 1, 1) := by decide +kernel
theorem dL_begins_856 : decode cL_begins 856 = .ok (.sipush 183, 3) := by decide +kernel
theorem dL_begins_859 : decode cL_begins 859 = .ok (.iconst 3, 1) := by decide +kernel
theorem dL_begins_860 : decode cL_begins 860 = .ok (.invokestatic 49, 3) := by decide +kernel
theorem dL_begins_863 : decode cL_begins 863 = .ok (.invokevirtual 53, 3) := by decide +kernel
theorem dL_begins_866 : decode cL_begins 866 = .ok (.ldc 56, 2) := by decide +kernel
theorem dL_begins_868 : decode cL_begins 868 = .ok (.invokevirtual 40, 3) := by decide +kernel
theorem dL_begins_871 : decode cL_begins 871 = .ok (.pop, 1) := by decide +kernel
theorem dL_begins_872 : decode cL_begins 872 = .ok (.aload_n 0, 1) := by decide +kernel
theorem dL_begins_873 : decode cL_begins 873 = .ok (.aload_n 2, 1) := by decide +kernel
theorem dL_begins_874 : decode cL_begins 874 = .ok (.invokevirtual 104, 3) := by decide +kernel
theorem dL_begins_877 : decode cL_begins 877 = .ok (.invokestatic 108, 3) := by decide +kernel
theorem dL_begins_880 : decode cL_begins 880 = .ok (.iload 4, 2) := by decide +kernel
theorem dL_begins_882 : decode cL_begins 882 = .ok (.if_icmp .ne 16, 3) := by decide +kernel
theorem dL_begins_885 : decode cL_begins 885 = .ok (.aload_n 0, 1) := by decide +kernel
theorem dL_begins_886 : decode cL_begins 886 = .ok (.iconst 1, 1) := by decide +kernel
theorem dL_begins_887 : decode cL_begins 887 = .ok (.invokevirtual 112, 3) := by decide +kernel
theorem dL_begins_890 : decode cL_begins 890 = .ok (.iload_n 3, 1) := by decide +kernel
theorem dL_begins_891 : decode cL_begins 891 = .ok (.if_icmp .ne 7, 3) := by decide +kernel
theorem dL_begins_894 : decode cL_begins 894 = .ok (.iconst 1, 1) := by decide +kernel
theorem dL_begins_895 : decode cL_begins 895 = .ok (.goto 4, 3) := by decide +kernel
theorem dL_begins_898 : decode cL_begins 898 = .ok (.iconst 0, 1) := by decide +kernel
theorem dL_begins_899 : decode cL_begins 899 = .ok (.ireturn, 1) := by decide +kernel
theorem dL_law_0 : decode cL_law 0 = .ok (.new 26, 3) := by decide +kernel
theorem dL_law_3 : decode cL_law 3 = .ok (.dup, 1) := by decide +kernel
theorem dL_law_4 : decode cL_law 4 = .ok (.invokespecial 115, 3) := by decide +kernel
theorem dL_law_7 : decode cL_law 7 = .ok (.astore_n 1, 1) := by decide +kernel
theorem dL_law_8 : decode cL_law 8 = .ok (.aload_n 1, 1) := by decide +kernel
theorem dL_law_9 : decode cL_law 9 = .ok (.iconst 0, 1) := by decide +kernel
theorem dL_law_10 : decode cL_law 10 = .ok (.iconst 0, 1) := by decide +kernel
theorem dL_law_11 : decode cL_law 11 = .ok (.invokevirtual 116, 3) := by decide +kernel
theorem dL_law_14 : decode cL_law 14 = .ok (.iconst (-1), 1) := by decide +kernel
theorem dL_law_15 : decode cL_law 15 = .ok (.if_icmp .ne 39, 3) := by decide +kernel
theorem dL_law_18 : decode cL_law 18 = .ok (.aload_n 1, 1) := by decide +kernel
theorem dL_law_19 : decode cL_law 19 = .ok (.invokevirtual 120, 3) := by decide +kernel
theorem dL_law_22 : decode cL_law 22 = .ok (.ifCond .ne 32, 3) := by decide +kernel
theorem dL_law_25 : decode cL_law 25 = .ok (.aload_n 1, 1) := by decide +kernel
theorem dL_law_26 : decode cL_law 26 = .ok (.iconst 0, 1) := by decide +kernel
theorem dL_law_27 : decode cL_law 27 = .ok (.iconst 0, 1) := by decide +kernel
theorem dL_law_28 : decode cL_law 28 = .ok (.iconst 1, 1) := by decide +kernel
theorem dL_law_29 : decode cL_law 29 = .ok (.iconst 1, 1) := by decide +kernel
theorem dL_law_30 : decode cL_law 30 = .ok (.invokevirtual 123, 3) := by decide +kernel
theorem dL_law_33 : decode cL_law 33 = .ok (.ldc 127, 2) := by decide +kernel
theorem dL_law_35 : decode cL_law 35 = .ok (.if_icmp .ne 19, 3) := by decide +kernel
theorem dL_law_38 : decode cL_law 38 = .ok (.aload_n 1, 1) := by decide +kernel
theorem dL_law_39 : decode cL_law 39 = .ok (.aload_n 0, 1) := by decide +kernel
theorem dL_law_40 : decode cL_law 40 = .ok (.invokestatic 128, 3) := by decide +kernel
theorem dL_law_43 : decode cL_law 43 = .ok (.ifCond .eq 11, 3) := by decide +kernel
theorem dL_law_46 : decode cL_law 46 = .ok (.aload_n 1, 1) := by decide +kernel
theorem dL_law_47 : decode cL_law 47 = .ok (.aload_n 0, 1) := by decide +kernel
theorem dL_law_48 : decode cL_law 48 = .ok (.invokestatic 132, 3) := by decide +kernel
theorem dL_law_51 : decode cL_law 51 = .ok (.ifCond .ne 5, 3) := by decide +kernel
theorem dL_law_54 : decode cL_law 54 = .ok (.iconst 0, 1) := by decide +kernel
theorem dL_law_55 : decode cL_law 55 = .ok (.ireturn, 1) := by decide +kernel
theorem dL_law_56 : decode cL_law 56 = .ok (.iconst 0, 1) := by decide +kernel
theorem dL_law_57 : decode cL_law 57 = .ok (.istore_n 2, 1) := by decide +kernel
theorem dL_law_58 : decode cL_law 58 = .ok (.iload_n 2, 1) := by decide +kernel
theorem dL_law_59 : decode cL_law 59 = .ok (.aload_n 1, 1) := by decide +kernel
theorem dL_law_60 : decode cL_law 60 = .ok (.iconst 5, 1) := by decide +kernel
theorem dL_law_61 : decode cL_law 61 = .ok (.invokevirtual 112, 3) := by decide +kernel
theorem dL_law_64 : decode cL_law 64 = .ok (.if_icmp .ge 397, 3) := by decide +kernel
theorem dL_law_67 : decode cL_law 67 = .ok (.aload_n 1, 1) := by decide +kernel
theorem dL_law_68 : decode cL_law 68 = .ok (.iload_n 2, 1) := by decide +kernel
theorem dL_law_69 : decode cL_law 69 = .ok (.iconst 5, 1) := by decide +kernel
theorem dL_law_70 : decode cL_law 70 = .ok (.invokevirtual 135, 3) := by decide +kernel
theorem dL_law_73 : decode cL_law 73 = .ok (.istore_n 3, 1) := by decide +kernel
theorem dL_law_74 : decode cL_law 74 = .ok (.iconst 1, 1) := by decide +kernel
theorem dL_law_75 : decode cL_law 75 = .ok (.iload_n 3, 1) := by decide +kernel
theorem dL_law_76 : decode cL_law 76 = .ok (.ishl, 1) := by decide +kernel
theorem dL_law_77 : decode cL_law 77 = .ok (.newarray .int, 2) := by decide +kernel
theorem dL_law_79 : decode cL_law 79 = .ok (.astore 4, 2) := by decide +kernel
theorem dL_law_81 : decode cL_law 81 = .ok (.iconst 0, 1) := by decide +kernel
theorem dL_law_82 : decode cL_law 82 = .ok (.istore 5, 2) := by decide +kernel
theorem dL_law_84 : decode cL_law 84 = .ok (.iload 5, 2) := by decide +kernel
theorem dL_law_86 : decode cL_law 86 = .ok (.aload 4, 2) := by decide +kernel
theorem dL_law_88 : decode cL_law 88 = .ok (.arraylength, 1) := by decide +kernel
theorem dL_law_89 : decode cL_law 89 = .ok (.if_icmp .ge 22, 3) := by decide +kernel
theorem dL_law_92 : decode cL_law 92 = .ok (.aload 4, 2) := by decide +kernel
theorem dL_law_94 : decode cL_law 94 = .ok (.iload 5, 2) := by decide +kernel
theorem dL_law_96 : decode cL_law 96 = .ok (.aload_n 1, 1) := by decide +kernel
theorem dL_law_97 : decode cL_law 97 = .ok (.aload_n 0, 1) := by decide +kernel
theorem dL_law_98 : decode cL_law 98 = .ok (.iload_n 2, 1) := by decide +kernel
theorem dL_law_99 : decode cL_law 99 = .ok (.iload 5, 2) := by decide +kernel
theorem dL_law_101 : decode cL_law 101 = .ok (.invokestatic 138, 3) := by decide +kernel
theorem dL_law_104 : decode cL_law 104 = .ok (.iastore, 1) := by decide +kernel
theorem dL_law_105 : decode cL_law 105 = .ok (.iinc 5 1, 3) := by decide +kernel
theorem dL_law_108 : decode cL_law 108 = .ok (.goto (-24), 3) := by decide +kernel
theorem dL_law_111 : decode cL_law 111 = .ok (.aload 4, 2) := by decide +kernel
theorem dL_law_113 : decode cL_law 113 = .ok (.arraylength, 1) := by decide +kernel
theorem dL_law_114 : decode cL_law 114 = .ok (.iconst 1, 1) := by decide +kernel
theorem dL_law_115 : decode cL_law 115 = .ok (.isub, 1) := by decide +kernel
theorem dL_law_116 : decode cL_law 116 = .ok (.istore 5, 2) := by decide +kernel
theorem dL_law_118 : decode cL_law 118 = .ok (.iconst 0, 1) := by decide +kernel
theorem dL_law_119 : decode cL_law 119 = .ok (.istore 6, 2) := by decide +kernel
theorem dL_law_121 : decode cL_law 121 = .ok (.iload 6, 2) := by decide +kernel
theorem dL_law_123 : decode cL_law 123 = .ok (.iload_n 3, 1) := by decide +kernel
theorem dL_law_124 : decode cL_law 124 = .ok (.if_icmp .gt 30, 3) := by decide +kernel
theorem dL_law_127 : decode cL_law 127 = .ok (.aload_n 1, 1) := by decide +kernel
theorem dL_law_128 : decode cL_law 128 = .ok (.iload_n 2, 1) := by decide +kernel
theorem dL_law_129 : decode cL_law 129 = .ok (.iload 6, 2) := by decide +kernel
theorem dL_law_131 : decode cL_law 131 = .ok (.invokevirtual 116, 3) := by decide +kernel
theorem dL_law_134 : decode cL_law 134 = .ok (.aload 4, 2) := by decide +kernel
theorem dL_law_136 : decode cL_law 136 = .ok (.iconst 1, 1) := by decide +kernel
theorem dL_law_137 : decode cL_law 137 = .ok (.iload 6, 2) := by decide +kernel
theorem dL_law_139 : decode cL_law 139 = .ok (.ishl, 1) := by decide +kernel
theorem dL_law_140 : decode cL_law 140 = .ok (.iconst 1, 1) := by decide +kernel
theorem dL_law_141 : decode cL_law 141 = .ok (.isub, 1) := by decide +kernel
theorem dL_law_142 : decode cL_law 142 = .ok (.iaload, 1) := by decide +kernel
theorem dL_law_143 : decode cL_law 143 = .ok (.if_icmp .eq 5, 3) := by decide +kernel
theorem dL_law_146 : decode cL_law 146 = .ok (.iconst 0, 1) := by decide +kernel
theorem dL_law_147 : decode cL_law 147 = .ok (.ireturn, 1) := by decide +kernel
theorem dL_law_148 : decode cL_law 148 = .ok (.iinc 6 1, 3) := by decide +kernel
theorem dL_law_151 : decode cL_law 151 = .ok (.goto (-30), 3) := by decide +kernel
theorem dL_law_154 : decode cL_law 154 = .ok (.iconst (-1), 1) := by decide +kernel
theorem dL_law_155 : decode cL_law 155 = .ok (.istore 6, 2) := by decide +kernel
theorem dL_law_157 : decode cL_law 157 = .ok (.iconst 0, 1) := by decide +kernel
theorem dL_law_158 : decode cL_law 158 = .ok (.istore 7, 2) := by decide +kernel
theorem dL_law_160 : decode cL_law 160 = .ok (.iload 7, 2) := by decide +kernel
theorem dL_law_162 : decode cL_law 162 = .ok (.bipush 8, 2) := by decide +kernel
theorem dL_law_164 : decode cL_law 164 = .ok (.if_icmp .ge 67, 3) := by decide +kernel
theorem dL_law_167 : decode cL_law 167 = .ok (.aload 4, 2) := by decide +kernel
theorem dL_law_169 : decode cL_law 169 = .ok (.aload_n 1, 1) := by decide +kernel
theorem dL_law_170 : decode cL_law 170 = .ok (.iload_n 2, 1) := by decide +kernel
theorem dL_law_171 : decode cL_law 171 = .ok (.iload 7, 2) := by decide +kernel
theorem dL_law_173 : decode cL_law 173 = .ok (.invokestatic 141, 3) := by decide +kernel
theorem dL_law_176 : decode cL_law 176 = .ok (.iaload, 1) := by decide +kernel
theorem dL_law_177 : decode cL_law 177 = .ok (.istore 8, 2) := by decide +kernel
theorem dL_law_179 : decode cL_law 179 = .ok (.aload_n 1, 1) := by decide +kernel
theorem dL_law_180 : decode cL_law 180 = .ok (.iload_n 2, 1) := by decide +kernel
theorem dL_law_181 : decode cL_law 181 = .ok (.iload 7, 2) := by decide +kernel
theorem dL_law_183 : decode cL_law 183 = .ok (.invokevirtual 145, 3) := by decide +kernel
theorem dL_law_186 : decode cL_law 186 = .ok (.iload 8, 2) := by decide +kernel
theorem dL_law_188 : decode cL_law 188 = .ok (.if_icmp .eq 5, 3) := by decide +kernel
theorem dL_law_191 : decode cL_law 191 = .ok (.iconst 0, 1) := by decide +kernel
theorem dL_law_192 : decode cL_law 192 = .ok (.ireturn, 1) := by decide +kernel
theorem dL_law_193 : decode cL_law 193 = .ok (.iload 8, 2) := by decide +kernel
theorem dL_law_195 : decode cL_law 195 = .ok (.aload 4, 2) := by decide +kernel
theorem dL_law_197 : decode cL_law 197 = .ok (.iload 5, 2) := by decide +kernel
theorem dL_law_199 : decode cL_law 199 = .ok (.iaload, 1) := by decide +kernel
theorem dL_law_200 : decode cL_law 200 = .ok (.if_icmp .ne 25, 3) := by decide +kernel
theorem dL_law_203 : decode cL_law 203 = .ok (.iload 6, 2) := by decide +kernel
theorem dL_law_205 : decode cL_law 205 = .ok (.ifCond .lt 16, 3) := by decide +kernel
theorem dL_law_208 : decode cL_law 208 = .ok (.iload 7, 2) := by decide +kernel
theorem dL_law_210 : decode cL_law 210 = .ok (.invokestatic 148, 3) := by decide +kernel
theorem dL_law_213 : decode cL_law 213 = .ok (.iload 6, 2) := by decide +kernel
theorem dL_law_215 : decode cL_law 215 = .ok (.invokestatic 148, 3) := by decide +kernel
theorem dL_law_218 : decode cL_law 218 = .ok (.if_icmp .ge 7, 3) := by decide +kernel
theorem dL_law_221 : decode cL_law 221 = .ok (.iload 7, 2) := by decide +kernel
theorem dL_law_223 : decode cL_law 223 = .ok (.istore 6, 2) := by decide +kernel
theorem dL_law_225 : decode cL_law 225 = .ok (.iinc 7 1, 3) := by decide +kernel
theorem dL_law_228 : decode cL_law 228 = .ok (.goto (-68), 3) := by decide +kernel
theorem dL_law_231 : decode cL_law 231 = .ok (.iconst (-1), 1) := by decide +kernel
theorem dL_law_232 : decode cL_law 232 = .ok (.istore 7, 2) := by decide +kernel
theorem dL_law_234 : decode cL_law 234 = .ok (.iconst 0, 1) := by decide +kernel
theorem dL_law_235 : decode cL_law 235 = .ok (.istore 8, 2) := by decide +kernel
theorem dL_law_237 : decode cL_law 237 = .ok (.iconst (-1), 1) := by decide +kernel
theorem dL_law_238 : decode cL_law 238 = .ok (.istore 9, 2) := by decide +kernel
theorem dL_law_240 : decode cL_law 240 = .ok (.iconst 0, 1) := by decide +kernel
theorem dL_law_241 : decode cL_law 241 = .ok (.istore 10, 2) := by decide +kernel
theorem dL_law_243 : decode cL_law 243 = .ok (.iload 10, 2) := by decide +kernel
theorem dL_law_245 : decode cL_law 245 = .ok (.iload 5, 2) := by decide +kernel
theorem dL_law_247 : decode cL_law 247 = .ok (.if_icmp .gt 110, 3) := by decide +kernel
theorem dL_law_250 : decode cL_law 250 = .ok (.aload 4, 2) := by decide +kernel
theorem dL_law_252 : decode cL_law 252 = .ok (.iload 10, 2) := by decide +kernel
theorem dL_law_254 : decode cL_law 254 = .ok (.iaload, 1) := by decide +kernel
theorem dL_law_255 : decode cL_law 255 = .ok (.aload 4, 2) := by decide +kernel
theorem dL_law_257 : decode cL_law 257 = .ok (.iload 5, 2) := by decide +kernel
theorem dL_law_259 : decode cL_law 259 = .ok (.iaload, 1) := by decide +kernel
theorem dL_law_260 : decode cL_law 260 = .ok (.if_icmp .ne 25, 3) := by decide +kernel
theorem dL_law_263 : decode cL_law 263 = .ok (.iload 7, 2) := by decide +kernel
theorem dL_law_265 : decode cL_law 265 = .ok (.ifCond .lt 16, 3) := by decide +kernel
theorem dL_law_268 : decode cL_law 268 = .ok (.iload 10, 2) := by decide +kernel
theorem dL_law_270 : decode cL_law 270 = .ok (.invokestatic 148, 3) := by decide +kernel
theorem dL_law_273 : decode cL_law 273 = .ok (.iload 7, 2) := by decide +kernel
theorem dL_law_275 : decode cL_law 275 = .ok (.invokestatic 148, 3) := by decide +kernel
theorem dL_law_278 : decode cL_law 278 = .ok (.if_icmp .ge 7, 3) := by decide +kernel
theorem dL_law_281 : decode cL_law 281 = .ok (.iload 10, 2) := by decide +kernel
theorem dL_law_283 : decode cL_law 283 = .ok (.istore 7, 2) := by decide +kernel
theorem dL_law_285 : decode cL_law 285 = .ok (.aload 4, 2) := by decide +kernel
theorem dL_law_287 : decode cL_law 287 = .ok (.iload 5, 2) := by decide +kernel
theorem dL_law_289 : decode cL_law 289 = .ok (.iload 10, 2) := by decide +kernel
theorem dL_law_291 : decode cL_law 291 = .ok (.iconst (-1), 1) := by decide +kernel
theorem dL_law_292 : decode cL_law 292 = .ok (.ixor, 1) := by decide +kernel
theorem dL_law_293 : decode cL_law 293 = .ok (.iand, 1) := by decide +kernel
theorem dL_law_294 : decode cL_law 294 = .ok (.iaload, 1) := by decide +kernel
theorem dL_law_295 : decode cL_law 295 = .ok (.iconst 3, 1) := by decide +kernel
theorem dL_law_296 : decode cL_law 296 = .ok (.if_icmp .eq 25, 3) := by decide +kernel
theorem dL_law_299 : decode cL_law 299 = .ok (.iload 9, 2) := by decide +kernel
theorem dL_law_301 : decode cL_law 301 = .ok (.ifCond .lt 16, 3) := by decide +kernel
theorem dL_law_304 : decode cL_law 304 = .ok (.iload 10, 2) := by decide +kernel
theorem dL_law_306 : decode cL_law 306 = .ok (.invokestatic 148, 3) := by decide +kernel
theorem dL_law_309 : decode cL_law 309 = .ok (.iload 9, 2) := by decide +kernel
theorem dL_law_311 : decode cL_law 311 = .ok (.invokestatic 148, 3) := by decide +kernel
theorem dL_law_314 : decode cL_law 314 = .ok (.if_icmp .ge 7, 3) := by decide +kernel
theorem dL_law_317 : decode cL_law 317 = .ok (.iload 10, 2) := by decide +kernel
theorem dL_law_319 : decode cL_law 319 = .ok (.istore 9, 2) := by decide +kernel
theorem dL_law_321 : decode cL_law 321 = .ok (.iload 10, 2) := by decide +kernel
theorem dL_law_323 : decode cL_law 323 = .ok (.invokestatic 148, 3) := by decide +kernel
theorem dL_law_326 : decode cL_law 326 = .ok (.iconst 1, 1) := by decide +kernel
theorem dL_law_327 : decode cL_law 327 = .ok (.if_icmp .ne 24, 3) := by decide +kernel
theorem dL_law_330 : decode cL_law 330 = .ok (.aload 4, 2) := by decide +kernel
theorem dL_law_332 : decode cL_law 332 = .ok (.iload 5, 2) := by decide +kernel
theorem dL_law_334 : decode cL_law 334 = .ok (.iload 10, 2) := by decide +kernel
theorem dL_law_336 : decode cL_law 336 = .ok (.iconst (-1), 1) := by decide +kernel
theorem dL_law_337 : decode cL_law 337 = .ok (.ixor, 1) := by decide +kernel
theorem dL_law_338 : decode cL_law 338 = .ok (.iand, 1) := by decide +kernel
theorem dL_law_339 : decode cL_law 339 = .ok (.iaload, 1) := by decide +kernel
theorem dL_law_340 : decode cL_law 340 = .ok (.iconst 2, 1) := by decide +kernel
theorem dL_law_341 : decode cL_law 341 = .ok (.if_icmp .ne 10, 3) := by decide +kernel
theorem dL_law_344 : decode cL_law 344 = .ok (.iload 8, 2) := by decide +kernel
theorem dL_law_346 : decode cL_law 346 = .ok (.iload 10, 2) := by decide +kernel
theorem dL_law_348 : decode cL_law 348 = .ok (.ior, 1) := by decide +kernel
theorem dL_law_349 : decode cL_law 349 = .ok (.istore 8, 2) := by decide +kernel
theorem dL_law_351 : decode cL_law 351 = .ok (.iinc 10 1, 3) := by decide +kernel
theorem dL_law_354 : decode cL_law 354 = .ok (.goto (-111), 3) := by decide +kernel
theorem dL_law_357 : decode cL_law 357 = .ok (.aload 4, 2) := by decide +kernel
theorem dL_law_359 : decode cL_law 359 = .ok (.iload 5, 2) := by decide +kernel
theorem dL_law_361 : decode cL_law 361 = .ok (.iaload, 1) := by decide +kernel
theorem dL_law_362 : decode cL_law 362 = .ok (.iconst 2, 1) := by decide +kernel
theorem dL_law_363 : decode cL_law 363 = .ok (.if_icmp .ge 7, 3) := by decide +kernel
theorem dL_law_366 : decode cL_law 366 = .ok (.iconst 1, 1) := by decide +kernel
theorem dL_law_367 : decode cL_law 367 = .ok (.goto 4, 3) := by decide +kernel
theorem dL_law_370 : decode cL_law 370 = .ok (.iconst 0, 1) := by decide +kernel
theorem dL_law_371 : decode cL_law 371 = .ok (.istore 10, 2) := by decide +kernel
theorem dL_law_373 : decode cL_law 373 = .ok (.aload_n 1, 1) := by decide +kernel
theorem dL_law_374 : decode cL_law 374 = .ok (.iload_n 2, 1) := by decide +kernel
theorem dL_law_375 : decode cL_law 375 = .ok (.invokevirtual 153, 3) := by decide +kernel
theorem dL_law_378 : decode cL_law 378 = .ok (.iload 10, 2) := by decide +kernel
theorem dL_law_380 : decode cL_law 380 = .ok (.ifCond .eq 8, 3) := by decide +kernel
theorem dL_law_383 : decode cL_law 383 = .ok (.iload 7, 2) := by decide +kernel
theorem dL_law_385 : decode cL_law 385 = .ok (.goto 5, 3) := by decide +kernel
theorem dL_law_388 : decode cL_law 388 = .ok (.bipush (-2), 2) := by decide +kernel
theorem dL_law_390 : decode cL_law 390 = .ok (.if_icmp .ne 63, 3) := by decide +kernel
theorem dL_law_393 : decode cL_law 393 = .ok (.aload_n 1, 1) := by decide +kernel
theorem dL_law_394 : decode cL_law 394 = .ok (.iload_n 2, 1) := by decide +kernel
theorem dL_law_395 : decode cL_law 395 = .ok (.invokevirtual 156, 3) := by decide +kernel
theorem dL_law_398 : decode cL_law 398 = .ok (.iload 10, 2) := by decide +kernel
theorem dL_law_400 : decode cL_law 400 = .ok (.ifCond .eq 8, 3) := by decide +kernel
theorem dL_law_403 : decode cL_law 403 = .ok (.iload 8, 2) := by decide +kernel
theorem dL_law_405 : decode cL_law 405 = .ok (.goto 5, 3) := by decide +kernel
theorem dL_law_408 : decode cL_law 408 = .ok (.bipush (-2), 2) := by decide +kernel
theorem dL_law_410 : decode cL_law 410 = .ok (.if_icmp .ne 43, 3) := by decide +kernel
theorem dL_law_413 : decode cL_law 413 = .ok (.aload_n 1, 1) := by decide +kernel
theorem dL_law_414 : decode cL_law 414 = .ok (.iload_n 2, 1) := by decide +kernel
theorem dL_law_415 : decode cL_law 415 = .ok (.invokevirtual 159, 3) := by decide +kernel
theorem dL_law_418 : decode cL_law 418 = .ok (.iload 10, 2) := by decide +kernel
theorem dL_law_420 : decode cL_law 420 = .ok (.ifCond .eq 8, 3) := by decide +kernel
theorem dL_law_423 : decode cL_law 423 = .ok (.iload 6, 2) := by decide +kernel
theorem dL_law_425 : decode cL_law 425 = .ok (.goto 5, 3) := by decide +kernel
theorem dL_law_428 : decode cL_law 428 = .ok (.bipush (-2), 2) := by decide +kernel
theorem dL_law_430 : decode cL_law 430 = .ok (.if_icmp .ne 23, 3) := by decide +kernel
theorem dL_law_433 : decode cL_law 433 = .ok (.aload_n 1, 1) := by decide +kernel
theorem dL_law_434 : decode cL_law 434 = .ok (.iload_n 2, 1) := by decide +kernel
theorem dL_law_435 : decode cL_law 435 = .ok (.invokevirtual 162, 3) := by decide +kernel
theorem dL_law_438 : decode cL_law 438 = .ok (.iload 9, 2) := by decide +kernel
theorem dL_law_440 : decode cL_law 440 = .ok (.ifCond .ge 8, 3) := by decide +kernel
theorem dL_law_443 : decode cL_law 443 = .ok (.bipush (-2), 2) := by decide +kernel
theorem dL_law_445 : decode cL_law 445 = .ok (.goto 5, 3) := by decide +kernel
theorem dL_law_448 : decode cL_law 448 = .ok (.iload 9, 2) := by decide +kernel
theorem dL_law_450 : decode cL_law 450 = .ok (.if_icmp .eq 5, 3) := by decide +kernel
theorem dL_law_453 : decode cL_law 453 = .ok (.iconst 0, 1) := by decide +kernel
theorem dL_law_454 : decode cL_law 454 = .ok (.ireturn, 1) := by decide +kernel
theorem dL_law_455 : decode cL_law 455 = .ok (.iinc 2 1, 3) := by decide +kernel
theorem dL_law_458 : decode cL_law 458 = .ok (.goto (-400), 3) := by decide +kernel
theorem dL_law_461 : decode cL_law 461 = .ok (.aload_n 1, 1) := by decide +kernel
theorem dL_law_462 : decode cL_law 462 = .ok (.iconst 0, 1) := by decide +kernel
theorem dL_law_463 : decode cL_law 463 = .ok (.bipush 11, 2) := by decide +kernel
theorem dL_law_465 : decode cL_law 465 = .ok (.invokevirtual 116, 3) := by decide +kernel
theorem dL_law_468 : decode cL_law 468 = .ok (.iconst (-1), 1) := by decide +kernel
theorem dL_law_469 : decode cL_law 469 = .ok (.if_icmp .ne 28, 3) := by decide +kernel
theorem dL_law_472 : decode cL_law 472 = .ok (.aload_n 1, 1) := by decide +kernel
theorem dL_law_473 : decode cL_law 473 = .ok (.iconst 0, 1) := by decide +kernel
theorem dL_law_474 : decode cL_law 474 = .ok (.bipush 8, 2) := by decide +kernel
theorem dL_law_476 : decode cL_law 476 = .ok (.invokevirtual 145, 3) := by decide +kernel
theorem dL_law_479 : decode cL_law 479 = .ok (.iconst (-1), 1) := by decide +kernel
theorem dL_law_480 : decode cL_law 480 = .ok (.if_icmp .ne 17, 3) := by decide +kernel
theorem dL_law_483 : decode cL_law 483 = .ok (.aload_n 1, 1) := by decide +kernel
theorem dL_law_484 : decode cL_law 484 = .ok (.bipush 99, 2) := by decide +kernel
theorem dL_law_486 : decode cL_law 486 = .ok (.invokevirtual 153, 3) := by decide +kernel
theorem dL_law_489 : decode cL_law 489 = .ok (.iconst (-1), 1) := by decide +kernel
theorem dL_law_490 : decode cL_law 490 = .ok (.if_icmp .ne 7, 3) := by decide +kernel
theorem dL_law_493 : decode cL_law 493 = .ok (.iconst 1, 1) := by decide +kernel
theorem dL_law_494 : decode cL_law 494 = .ok (.goto 4, 3) := by decide +kernel
theorem dL_law_497 : decode cL_law 497 = .ok (.iconst 0, 1) := by decide +kernel
theorem dL_law_498 : decode cL_law 498 = .ok (.ireturn, 1) := by decide +kernel
theorem dL_framesOf_0 : decode cL_framesOf 0 = .ok (.iconst 0, 1) := by decide +kernel
theorem dL_framesOf_1 : decode cL_framesOf 1 = .ok (.istore_n 3, 1) := by decide +kernel
theorem dL_framesOf_2 : decode cL_framesOf 2 = .ok (.iconst 0, 1) := by decide +kernel
theorem dL_framesOf_3 : decode cL_framesOf 3 = .ok (.istore 4, 2) := by decide +kernel
theorem dL_framesOf_5 : decode cL_framesOf 5 = .ok (.iload 4, 2) := by decide +kernel
theorem dL_framesOf_7 : decode cL_framesOf 7 = .ok (.aload_n 0, 1) := by decide +kernel
theorem dL_framesOf_8 : decode cL_framesOf 8 = .ok (.iload_n 1, 1) := by decide +kernel
theorem dL_framesOf_9 : decode cL_framesOf 9 = .ok (.iconst 5, 1) := by decide +kernel
theorem dL_framesOf_10 : decode cL_framesOf 10 = .ok (.invokevirtual 135, 3) := by decide +kernel
theorem dL_framesOf_13 : decode cL_framesOf 13 = .ok (.if_icmp .ge 27, 3) := by decide +kernel
theorem dL_framesOf_16 : decode cL_framesOf 16 = .ok (.iload_n 3, 1) := by decide +kernel
theorem dL_framesOf_17 : decode cL_framesOf 17 = .ok (.iload_n 2, 1) := by decide +kernel
theorem dL_framesOf_18 : decode cL_framesOf 18 = .ok (.aload_n 0, 1) := by decide +kernel
theorem dL_framesOf_19 : decode cL_framesOf 19 = .ok (.iload_n 1, 1) := by decide +kernel
theorem dL_framesOf_20 : decode cL_framesOf 20 = .ok (.iload 4, 2) := by decide +kernel
theorem dL_framesOf_22 : decode cL_framesOf 22 = .ok (.iconst 0, 1) := by decide +kernel
theorem dL_framesOf_23 : decode cL_framesOf 23 = .ok (.invokevirtual 165, 3) := by decide +kernel
theorem dL_framesOf_26 : decode cL_framesOf 26 = .ok (.ishr, 1) := by decide +kernel
theorem dL_framesOf_27 : decode cL_framesOf 27 = .ok (.iconst 1, 1) := by decide +kernel
theorem dL_framesOf_28 : decode cL_framesOf 28 = .ok (.iand, 1) := by decide +kernel
theorem dL_framesOf_29 : decode cL_framesOf 29 = .ok (.iload 4, 2) := by decide +kernel
theorem dL_framesOf_31 : decode cL_framesOf 31 = .ok (.ishl, 1) := by decide +kernel
theorem dL_framesOf_32 : decode cL_framesOf 32 = .ok (.ior, 1) := by decide +kernel
theorem dL_framesOf_33 : decode cL_framesOf 33 = .ok (.istore_n 3, 1) := by decide +kernel
theorem dL_framesOf_34 : decode cL_framesOf 34 = .ok (.iinc 4 1, 3) := by decide +kernel
theorem dL_framesOf_37 : decode cL_framesOf 37 = .ok (.goto (-32), 3) := by decide +kernel
theorem dL_framesOf_40 : decode cL_framesOf 40 = .ok (.iload_n 3, 1) := by decide +kernel
theorem dL_framesOf_41 : decode cL_framesOf 41 = .ok (.ireturn, 1) := by decide +kernel
theorem dL_canBe_0 : decode cL_canBe 0 = .ok (.iconst 0, 1) := by decide +kernel
theorem dL_canBe_1 : decode cL_canBe 1 = .ok (.istore_n 3, 1) := by decide +kernel
theorem dL_canBe_2 : decode cL_canBe 2 = .ok (.iload_n 3, 1) := by decide +kernel
theorem dL_canBe_3 : decode cL_canBe 3 = .ok (.aload_n 0, 1) := by decide +kernel
theorem dL_canBe_4 : decode cL_canBe 4 = .ok (.iconst 1, 1) := by decide +kernel
theorem dL_canBe_5 : decode cL_canBe 5 = .ok (.invokevirtual 112, 3) := by decide +kernel
theorem dL_canBe_8 : decode cL_canBe 8 = .ok (.if_icmp .ge 77, 3) := by decide +kernel
theorem dL_canBe_11 : decode cL_canBe 11 = .ok (.aload_n 1, 1) := by decide +kernel
theorem dL_canBe_12 : decode cL_canBe 12 = .ok (.bipush 7, 2) := by decide +kernel
theorem dL_canBe_14 : decode cL_canBe 14 = .ok (.iload_n 3, 1) := by decide +kernel
theorem dL_canBe_15 : decode cL_canBe 15 = .ok (.iadd, 1) := by decide +kernel
theorem dL_canBe_16 : decode cL_canBe 16 = .ok (.iconst 3, 1) := by decide +kernel
theorem dL_canBe_17 : decode cL_canBe 17 = .ok (.invokestatic 49, 3) := by decide +kernel
theorem dL_canBe_20 : decode cL_canBe 20 = .ok (.istore 4, 2) := by decide +kernel
theorem dL_canBe_22 : decode cL_canBe 22 = .ok (.iload 4, 2) := by decide +kernel
theorem dL_canBe_24 : decode cL_canBe 24 = .ok (.iconst 1, 1) := by decide +kernel
theorem dL_canBe_25 : decode cL_canBe 25 = .ok (.iadd, 1) := by decide +kernel
theorem dL_canBe_26 : decode cL_canBe 26 = .ok (.aload_n 1, 1) := by decide +kernel
theorem dL_canBe_27 : decode cL_canBe 27 = .ok (.bipush 11, 2) := by decide +kernel
theorem dL_canBe_29 : decode cL_canBe 29 = .ok (.iload_n 3, 1) := by decide +kernel
theorem dL_canBe_30 : decode cL_canBe 30 = .ok (.iadd, 1) := by decide +kernel
theorem dL_canBe_31 : decode cL_canBe 31 = .ok (.iconst 2, 1) := by decide +kernel
theorem dL_canBe_32 : decode cL_canBe 32 = .ok (.invokestatic 49, 3) := by decide +kernel
theorem dL_canBe_35 : decode cL_canBe 35 = .ok (.iadd, 1) := by decide +kernel
theorem dL_canBe_36 : decode cL_canBe 36 = .ok (.iconst 3, 1) := by decide +kernel
theorem dL_canBe_37 : decode cL_canBe 37 = .ok (.irem, 1) := by decide +kernel
theorem dL_canBe_38 : decode cL_canBe 38 = .ok (.istore 5, 2) := by decide +kernel
theorem dL_canBe_40 : decode cL_canBe 40 = .ok (.bipush 10, 2) := by decide +kernel
theorem dL_canBe_42 : decode cL_canBe 42 = .ok (.aload_n 1, 1) := by decide +kernel
theorem dL_canBe_43 : decode cL_canBe 43 = .ok (.bipush 9, 2) := by decide +kernel
theorem dL_canBe_45 : decode cL_canBe 45 = .ok (.iload_n 3, 1) := by decide +kernel
theorem dL_canBe_46 : decode cL_canBe 46 = .ok (.iadd, 1) := by decide +kernel
theorem dL_canBe_47 : decode cL_canBe 47 = .ok (.iconst 4, 1) := by decide +kernel
theorem dL_canBe_48 : decode cL_canBe 48 = .ok (.invokestatic 49, 3) := by decide +kernel
theorem dL_canBe_51 : decode cL_canBe 51 = .ok (.iadd, 1) := by decide +kernel
theorem dL_canBe_52 : decode cL_canBe 52 = .ok (.aload_n 2, 1) := by decide +kernel
theorem dL_canBe_53 : decode cL_canBe 53 = .ok (.iload 4, 2) := by decide +kernel
theorem dL_canBe_55 : decode cL_canBe 55 = .ok (.iaload, 1) := by decide +kernel
theorem dL_canBe_56 : decode cL_canBe 56 = .ok (.isub, 1) := by decide +kernel
theorem dL_canBe_57 : decode cL_canBe 57 = .ok (.bipush 10, 2) := by decide +kernel
theorem dL_canBe_59 : decode cL_canBe 59 = .ok (.aload_n 1, 1) := by decide +kernel
theorem dL_canBe_60 : decode cL_canBe 60 = .ok (.bipush 13, 2) := by decide +kernel
theorem dL_canBe_62 : decode cL_canBe 62 = .ok (.iload_n 3, 1) := by decide +kernel
theorem dL_canBe_63 : decode cL_canBe 63 = .ok (.iadd, 1) := by decide +kernel
theorem dL_canBe_64 : decode cL_canBe 64 = .ok (.iconst 4, 1) := by decide +kernel
theorem dL_canBe_65 : decode cL_canBe 65 = .ok (.invokestatic 49, 3) := by decide +kernel
theorem dL_canBe_68 : decode cL_canBe 68 = .ok (.iadd, 1) := by decide +kernel
theorem dL_canBe_69 : decode cL_canBe 69 = .ok (.aload_n 2, 1) := by decide +kernel
theorem dL_canBe_70 : decode cL_canBe 70 = .ok (.iload 5, 2) := by decide +kernel
theorem dL_canBe_72 : decode cL_canBe 72 = .ok (.iaload, 1) := by decide +kernel
theorem dL_canBe_73 : decode cL_canBe 73 = .ok (.isub, 1) := by decide +kernel
theorem dL_canBe_74 : decode cL_canBe 74 = .ok (.if_icmp .eq 5, 3) := by decide +kernel
theorem dL_canBe_77 : decode cL_canBe 77 = .ok (.iconst 0, 1) := by decide +kernel
theorem dL_canBe_78 : decode cL_canBe 78 = .ok (.ireturn, 1) := by decide +kernel
theorem dL_canBe_79 : decode cL_canBe 79 = .ok (.iinc 3 1, 3) := by decide +kernel
theorem dL_canBe_82 : decode cL_canBe 82 = .ok (.goto (-80), 3) := by decide +kernel
theorem dL_canBe_85 : decode cL_canBe 85 = .ok (.iconst 1, 1) := by decide +kernel
theorem dL_canBe_86 : decode cL_canBe 86 = .ok (.ireturn, 1) := by decide +kernel
theorem dL_goesOn_0 : decode cL_goesOn 0 = .ok (.iconst 2, 1) := by decide +kernel
theorem dL_goesOn_1 : decode cL_goesOn 1 = .ok (.istore_n 2, 1) := by decide +kernel
theorem dL_goesOn_2 : decode cL_goesOn 2 = .ok (.iload_n 2, 1) := by decide +kernel
theorem dL_goesOn_3 : decode cL_goesOn 3 = .ok (.ifCond .lt 39, 3) := by decide +kernel
theorem dL_goesOn_6 : decode cL_goesOn 6 = .ok (.aload_n 1, 1) := by decide +kernel
theorem dL_goesOn_7 : decode cL_goesOn 7 = .ok (.iload_n 2, 1) := by decide +kernel
theorem dL_goesOn_8 : decode cL_goesOn 8 = .ok (.iaload, 1) := by decide +kernel
theorem dL_goesOn_9 : decode cL_goesOn 9 = .ok (.aload_n 0, 1) := by decide +kernel
theorem dL_goesOn_10 : decode cL_goesOn 10 = .ok (.iload_n 2, 1) := by decide +kernel
theorem dL_goesOn_11 : decode cL_goesOn 11 = .ok (.iconst 1, 1) := by decide +kernel
theorem dL_goesOn_12 : decode cL_goesOn 12 = .ok (.invokevirtual 169, 3) := by decide +kernel
theorem dL_goesOn_15 : decode cL_goesOn 15 = .ok (.if_icmp .ge 12, 3) := by decide +kernel
theorem dL_goesOn_18 : decode cL_goesOn 18 = .ok (.aload_n 1, 1) := by decide +kernel
theorem dL_goesOn_19 : decode cL_goesOn 19 = .ok (.iload_n 2, 1) := by decide +kernel
theorem dL_goesOn_20 : decode cL_goesOn 20 = .ok (.dup2, 1) := by decide +kernel
theorem dL_goesOn_21 : decode cL_goesOn 21 = .ok (.iaload, 1) := by decide +kernel
theorem dL_goesOn_22 : decode cL_goesOn 22 = .ok (.iconst 1, 1) := by decide +kernel
theorem dL_goesOn_23 : decode cL_goesOn 23 = .ok (.iadd, 1) := by decide +kernel
theorem dL_goesOn_24 : decode cL_goesOn 24 = .ok (.iastore, 1) := by decide +kernel
theorem dL_goesOn_25 : decode cL_goesOn 25 = .ok (.iconst 1, 1) := by decide +kernel
theorem dL_goesOn_26 : decode cL_goesOn 26 = .ok (.ireturn, 1) := by decide +kernel
theorem dL_goesOn_27 : decode cL_goesOn 27 = .ok (.aload_n 1, 1) := by decide +kernel
theorem dL_goesOn_28 : decode cL_goesOn 28 = .ok (.iload_n 2, 1) := by decide +kernel
theorem dL_goesOn_29 : decode cL_goesOn 29 = .ok (.aload_n 0, 1) := by decide +kernel
theorem dL_goesOn_30 : decode cL_goesOn 30 = .ok (.iload_n 2, 1) := by decide +kernel
theorem dL_goesOn_31 : decode cL_goesOn 31 = .ok (.iconst 0, 1) := by decide +kernel
theorem dL_goesOn_32 : decode cL_goesOn 32 = .ok (.invokevirtual 169, 3) := by decide +kernel
theorem dL_goesOn_35 : decode cL_goesOn 35 = .ok (.iastore, 1) := by decide +kernel
theorem dL_goesOn_36 : decode cL_goesOn 36 = .ok (.iinc 2 (-1), 3) := by decide +kernel
theorem dL_goesOn_39 : decode cL_goesOn 39 = .ok (.goto (-37), 3) := by decide +kernel
theorem dL_goesOn_42 : decode cL_goesOn 42 = .ok (.iconst 0, 1) := by decide +kernel
theorem dL_goesOn_43 : decode cL_goesOn 43 = .ok (.ireturn, 1) := by decide +kernel
theorem dL_verdict_0 : decode cL_verdict 0 = .ok (.iconst 3, 1) := by decide +kernel
theorem dL_verdict_1 : decode cL_verdict 1 = .ok (.newarray .int, 2) := by decide +kernel
theorem dL_verdict_3 : decode cL_verdict 3 = .ok (.dup, 1) := by decide +kernel
theorem dL_verdict_4 : decode cL_verdict 4 = .ok (.iconst 0, 1) := by decide +kernel
theorem dL_verdict_5 : decode cL_verdict 5 = .ok (.aload_n 0, 1) := by decide +kernel
theorem dL_verdict_6 : decode cL_verdict 6 = .ok (.iconst 0, 1) := by decide +kernel
theorem dL_verdict_7 : decode cL_verdict 7 = .ok (.iconst 0, 1) := by decide +kernel
theorem dL_verdict_8 : decode cL_verdict 8 = .ok (.invokevirtual 169, 3) := by decide +kernel
theorem dL_verdict_11 : decode cL_verdict 11 = .ok (.iastore, 1) := by decide +kernel
theorem dL_verdict_12 : decode cL_verdict 12 = .ok (.dup, 1) := by decide +kernel
theorem dL_verdict_13 : decode cL_verdict 13 = .ok (.iconst 1, 1) := by decide +kernel
theorem dL_verdict_14 : decode cL_verdict 14 = .ok (.aload_n 0, 1) := by decide +kernel
theorem dL_verdict_15 : decode cL_verdict 15 = .ok (.iconst 1, 1) := by decide +kernel
theorem dL_verdict_16 : decode cL_verdict 16 = .ok (.iconst 0, 1) := by decide +kernel
theorem dL_verdict_17 : decode cL_verdict 17 = .ok (.invokevirtual 169, 3) := by decide +kernel
theorem dL_verdict_20 : decode cL_verdict 20 = .ok (.iastore, 1) := by decide +kernel
theorem dL_verdict_21 : decode cL_verdict 21 = .ok (.dup, 1) := by decide +kernel
theorem dL_verdict_22 : decode cL_verdict 22 = .ok (.iconst 2, 1) := by decide +kernel
theorem dL_verdict_23 : decode cL_verdict 23 = .ok (.aload_n 0, 1) := by decide +kernel
theorem dL_verdict_24 : decode cL_verdict 24 = .ok (.iconst 2, 1) := by decide +kernel
theorem dL_verdict_25 : decode cL_verdict 25 = .ok (.iconst 0, 1) := by decide +kernel
theorem dL_verdict_26 : decode cL_verdict 26 = .ok (.invokevirtual 169, 3) := by decide +kernel
theorem dL_verdict_29 : decode cL_verdict 29 = .ok (.iastore, 1) := by decide +kernel
theorem dL_verdict_30 : decode cL_verdict 30 = .ok (.astore 4, 2) := by decide +kernel
theorem dL_verdict_32 : decode cL_verdict 32 = .ok (.iconst 0, 1) := by decide +kernel
theorem dL_verdict_33 : decode cL_verdict 33 = .ok (.istore 5, 2) := by decide +kernel
theorem dL_verdict_35 : decode cL_verdict 35 = .ok (.iconst 1, 1) := by decide +kernel
theorem dL_verdict_36 : decode cL_verdict 36 = .ok (.istore 6, 2) := by decide +kernel
theorem dL_verdict_38 : decode cL_verdict 38 = .ok (.iconst 1, 1) := by decide +kernel
theorem dL_verdict_39 : decode cL_verdict 39 = .ok (.istore 7, 2) := by decide +kernel
theorem dL_verdict_41 : decode cL_verdict 41 = .ok (.aload_n 0, 1) := by decide +kernel
theorem dL_verdict_42 : decode cL_verdict 42 = .ok (.aload_n 1, 1) := by decide +kernel
theorem dL_verdict_43 : decode cL_verdict 43 = .ok (.aload 4, 2) := by decide +kernel
theorem dL_verdict_45 : decode cL_verdict 45 = .ok (.invokestatic 172, 3) := by decide +kernel
theorem dL_verdict_48 : decode cL_verdict 48 = .ok (.ifCond .ne 6, 3) := by decide +kernel
theorem dL_verdict_51 : decode cL_verdict 51 = .ok (.goto 294, 3) := by decide +kernel
theorem dL_verdict_54 : decode cL_verdict 54 = .ok (.iconst 4, 1) := by decide +kernel
theorem dL_verdict_55 : decode cL_verdict 55 = .ok (.newarray .int, 2) := by decide +kernel
theorem dL_verdict_57 : decode cL_verdict 57 = .ok (.dup, 1) := by decide +kernel
theorem dL_verdict_58 : decode cL_verdict 58 = .ok (.iconst 0, 1) := by decide +kernel
theorem dL_verdict_59 : decode cL_verdict 59 = .ok (.sipush (-1000), 3) := by decide +kernel
theorem dL_verdict_62 : decode cL_verdict 62 = .ok (.iastore, 1) := by decide +kernel
theorem dL_verdict_63 : decode cL_verdict 63 = .ok (.dup, 1) := by decide +kernel
theorem dL_verdict_64 : decode cL_verdict 64 = .ok (.iconst 1, 1) := by decide +kernel
theorem dL_verdict_65 : decode cL_verdict 65 = .ok (.sipush (-1000), 3) := by decide +kernel
theorem dL_verdict_68 : decode cL_verdict 68 = .ok (.iastore, 1) := by decide +kernel
theorem dL_verdict_69 : decode cL_verdict 69 = .ok (.dup, 1) := by decide +kernel
theorem dL_verdict_70 : decode cL_verdict 70 = .ok (.iconst 2, 1) := by decide +kernel
theorem dL_verdict_71 : decode cL_verdict 71 = .ok (.sipush (-1000), 3) := by decide +kernel
theorem dL_verdict_74 : decode cL_verdict 74 = .ok (.iastore, 1) := by decide +kernel
theorem dL_verdict_75 : decode cL_verdict 75 = .ok (.dup, 1) := by decide +kernel
theorem dL_verdict_76 : decode cL_verdict 76 = .ok (.iconst 3, 1) := by decide +kernel
theorem dL_verdict_77 : decode cL_verdict 77 = .ok (.sipush (-1000), 3) := by decide +kernel
theorem dL_verdict_80 : decode cL_verdict 80 = .ok (.iastore, 1) := by decide +kernel
theorem dL_verdict_81 : decode cL_verdict 81 = .ok (.astore 8, 2) := by decide +kernel
theorem dL_verdict_83 : decode cL_verdict 83 = .ok (.iconst 4, 1) := by decide +kernel
theorem dL_verdict_84 : decode cL_verdict 84 = .ok (.newarray .int, 2) := by decide +kernel
theorem dL_verdict_86 : decode cL_verdict 86 = .ok (.dup, 1) := by decide +kernel
theorem dL_verdict_87 : decode cL_verdict 87 = .ok (.iconst 0, 1) := by decide +kernel
theorem dL_verdict_88 : decode cL_verdict 88 = .ok (.sipush 1000, 3) := by decide +kernel
theorem dL_verdict_91 : decode cL_verdict 91 = .ok (.iastore, 1) := by decide +kernel
theorem dL_verdict_92 : decode cL_verdict 92 = .ok (.dup, 1) := by decide +kernel
theorem dL_verdict_93 : decode cL_verdict 93 = .ok (.iconst 1, 1) := by decide +kernel
theorem dL_verdict_94 : decode cL_verdict 94 = .ok (.sipush 1000, 3) := by decide +kernel
theorem dL_verdict_97 : decode cL_verdict 97 = .ok (.iastore, 1) := by decide +kernel
theorem dL_verdict_98 : decode cL_verdict 98 = .ok (.dup, 1) := by decide +kernel
theorem dL_verdict_99 : decode cL_verdict 99 = .ok (.iconst 2, 1) := by decide +kernel
theorem dL_verdict_100 : decode cL_verdict 100 = .ok (.sipush 1000, 3) := by decide +kernel
theorem dL_verdict_103 : decode cL_verdict 103 = .ok (.iastore, 1) := by decide +kernel
theorem dL_verdict_104 : decode cL_verdict 104 = .ok (.dup, 1) := by decide +kernel
theorem dL_verdict_105 : decode cL_verdict 105 = .ok (.iconst 3, 1) := by decide +kernel
theorem dL_verdict_106 : decode cL_verdict 106 = .ok (.sipush 1000, 3) := by decide +kernel
theorem dL_verdict_109 : decode cL_verdict 109 = .ok (.iastore, 1) := by decide +kernel
theorem dL_verdict_110 : decode cL_verdict 110 = .ok (.astore 9, 2) := by decide +kernel
theorem dL_verdict_112 : decode cL_verdict 112 = .ok (.iconst 1, 1) := by decide +kernel
theorem dL_verdict_113 : decode cL_verdict 113 = .ok (.istore 10, 2) := by decide +kernel
theorem dL_verdict_115 : decode cL_verdict 115 = .ok (.iconst 0, 1) := by decide +kernel
theorem dL_verdict_116 : decode cL_verdict 116 = .ok (.istore 11, 2) := by decide +kernel
theorem dL_verdict_118 : decode cL_verdict 118 = .ok (.iload 11, 2) := by decide +kernel
theorem dL_verdict_120 : decode cL_verdict 120 = .ok (.aload_n 0, 1) := by decide +kernel
theorem dL_verdict_121 : decode cL_verdict 121 = .ok (.iload_n 2, 1) := by decide +kernel
theorem dL_verdict_122 : decode cL_verdict 122 = .ok (.iconst 5, 1) := by decide +kernel
theorem dL_verdict_123 : decode cL_verdict 123 = .ok (.invokevirtual 135, 3) := by decide +kernel
theorem dL_verdict_126 : decode cL_verdict 126 = .ok (.if_icmp .ge 124, 3) := by decide +kernel
theorem dL_verdict_129 : decode cL_verdict 129 = .ok (.iload_n 3, 1) := by decide +kernel
theorem dL_verdict_130 : decode cL_verdict 130 = .ok (.iload 11, 2) := by decide +kernel
theorem dL_verdict_132 : decode cL_verdict 132 = .ok (.ishr, 1) := by decide +kernel
theorem dL_verdict_133 : decode cL_verdict 133 = .ok (.iconst 1, 1) := by decide +kernel
theorem dL_verdict_134 : decode cL_verdict 134 = .ok (.iand, 1) := by decide +kernel
theorem dL_verdict_135 : decode cL_verdict 135 = .ok (.ifCond .ne 6, 3) := by decide +kernel
theorem dL_verdict_138 : decode cL_verdict 138 = .ok (.goto 106, 3) := by decide +kernel
theorem dL_verdict_141 : decode cL_verdict 141 = .ok (.aload_n 0, 1) := by decide +kernel
