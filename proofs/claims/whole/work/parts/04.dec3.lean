theorem dX11_reviewed_28 : decode cX11_reviewed 28 = .ok (.bipush 41, 2) := by decide +kernel
theorem dX11_reviewed_30 : decode cX11_reviewed 30 = .ok (.iload_n 1, 1) := by decide +kernel
theorem dX11_reviewed_31 : decode cX11_reviewed 31 = .ok (.iadd, 1) := by decide +kernel
theorem dX11_reviewed_32 : decode cX11_reviewed 32 = .ok (.dup2, 1) := by decide +kernel
theorem dX11_reviewed_33 : decode cX11_reviewed 33 = .ok (.iaload, 1) := by decide +kernel
theorem dX11_reviewed_34 : decode cX11_reviewed 34 = .ok (.aload_n 0, 1) := by decide +kernel
theorem dX11_reviewed_35 : decode cX11_reviewed 35 = .ok (.iload_n 1, 1) := by decide +kernel
theorem dX11_reviewed_36 : decode cX11_reviewed 36 = .ok (.invokevirtual 375, 3) := by decide +kernel
theorem dX11_reviewed_39 : decode cX11_reviewed 39 = .ok (.iadd, 1) := by decide +kernel
theorem dX11_reviewed_40 : decode cX11_reviewed 40 = .ok (.iastore, 1) := by decide +kernel
theorem dX11_reviewed_41 : decode cX11_reviewed 41 = .ok (.aload_n 0, 1) := by decide +kernel
theorem dX11_reviewed_42 : decode cX11_reviewed 42 = .ok (.iload_n 1, 1) := by decide +kernel
theorem dX11_reviewed_43 : decode cX11_reviewed 43 = .ok (.iload_n 2, 1) := by decide +kernel
theorem dX11_reviewed_44 : decode cX11_reviewed 44 = .ok (.iload_n 3, 1) := by decide +kernel
theorem dX11_reviewed_45 : decode cX11_reviewed 45 = .ok (.aload_n 0, 1) := by decide +kernel
theorem dX11_reviewed_46 : decode cX11_reviewed 46 = .ok (.iload_n 1, 1) := by decide +kernel
theorem dX11_reviewed_47 : decode cX11_reviewed 47 = .ok (.invokevirtual 375, 3) := by decide +kernel
theorem dX11_reviewed_50 : decode cX11_reviewed 50 = .ok (.invokevirtual 378, 3) := by decide +kernel
theorem dX11_reviewed_53 : decode cX11_reviewed 53 = .ok (.iload_n 3, 1) := by decide +kernel
theorem dX11_reviewed_54 : decode cX11_reviewed 54 = .ok (.iconst 2, 1) := by decide +kernel
theorem dX11_reviewed_55 : decode cX11_reviewed 55 = .ok (.if_icmp .eq 5, 3) := by decide +kernel
theorem dX11_reviewed_58 : decode cX11_reviewed 58 = .ok (.iload_n 3, 1) := by decide +kernel
theorem dX11_reviewed_59 : decode cX11_reviewed 59 = .ok (.ireturn, 1) := by decide +kernel
theorem dX11_reviewed_60 : decode cX11_reviewed 60 = .ok (.aload_n 0, 1) := by decide +kernel
theorem dX11_reviewed_61 : decode cX11_reviewed 61 = .ok (.getfield 97, 3) := by decide +kernel
theorem dX11_reviewed_64 : decode cX11_reviewed 64 = .ok (.iconst 1, 1) := by decide +kernel
theorem dX11_reviewed_65 : decode cX11_reviewed 65 = .ok (.iload_n 1, 1) := by decide +kernel
theorem dX11_reviewed_66 : decode cX11_reviewed 66 = .ok (.iadd, 1) := by decide +kernel
theorem dX11_reviewed_67 : decode cX11_reviewed 67 = .ok (.iconst 1, 1) := by decide +kernel
theorem dX11_reviewed_68 : decode cX11_reviewed 68 = .ok (.aload_n 0, 1) := by decide +kernel
theorem dX11_reviewed_69 : decode cX11_reviewed 69 = .ok (.getfield 97, 3) := by decide +kernel
theorem dX11_reviewed_72 : decode cX11_reviewed 72 = .ok (.iconst 1, 1) := by decide +kernel
theorem dX11_reviewed_73 : decode cX11_reviewed 73 = .ok (.iload_n 1, 1) := by decide +kernel
theorem dX11_reviewed_74 : decode cX11_reviewed 74 = .ok (.iadd, 1) := by decide +kernel
theorem dX11_reviewed_75 : decode cX11_reviewed 75 = .ok (.iaload, 1) := by decide +kernel
theorem dX11_reviewed_76 : decode cX11_reviewed 76 = .ok (.isub, 1) := by decide +kernel
theorem dX11_reviewed_77 : decode cX11_reviewed 77 = .ok (.iastore, 1) := by decide +kernel
theorem dX11_reviewed_78 : decode cX11_reviewed 78 = .ok (.aload_n 0, 1) := by decide +kernel
theorem dX11_reviewed_79 : decode cX11_reviewed 79 = .ok (.getfield 46, 3) := by decide +kernel
theorem dX11_reviewed_82 : decode cX11_reviewed 82 = .ok (.aload_n 0, 1) := by decide +kernel
theorem dX11_reviewed_83 : decode cX11_reviewed 83 = .ok (.getfield 70, 3) := by decide +kernel
theorem dX11_reviewed_86 : decode cX11_reviewed 86 = .ok (.iload_n 1, 1) := by decide +kernel
theorem dX11_reviewed_87 : decode cX11_reviewed 87 = .ok (.iaload, 1) := by decide +kernel
theorem dX11_reviewed_88 : decode cX11_reviewed 88 = .ok (.baload, 1) := by decide +kernel
theorem dX11_reviewed_89 : decode cX11_reviewed 89 = .ok (.ifCond .eq 10, 3) := by decide +kernel
theorem dX11_reviewed_92 : decode cX11_reviewed 92 = .ok (.aload_n 0, 1) := by decide +kernel
theorem dX11_reviewed_93 : decode cX11_reviewed 93 = .ok (.iload_n 1, 1) := by decide +kernel
theorem dX11_reviewed_94 : decode cX11_reviewed 94 = .ok (.iconst 1, 1) := by decide +kernel
theorem dX11_reviewed_95 : decode cX11_reviewed 95 = .ok (.iadd, 1) := by decide +kernel
theorem dX11_reviewed_96 : decode cX11_reviewed 96 = .ok (.invokevirtual 382, 3) := by decide +kernel
theorem dX11_reviewed_99 : decode cX11_reviewed 99 = .ok (.iload_n 3, 1) := by decide +kernel
theorem dX11_reviewed_100 : decode cX11_reviewed 100 = .ok (.ireturn, 1) := by decide +kernel
theorem dX11_isAtOnce_0 : decode cX11_isAtOnce 0 = .ok (.aload_n 0, 1) := by decide +kernel
theorem dX11_isAtOnce_1 : decode cX11_isAtOnce 1 = .ok (.getfield 43, 3) := by decide +kernel
theorem dX11_isAtOnce_4 : decode cX11_isAtOnce 4 = .ok (.aload_n 0, 1) := by decide +kernel
theorem dX11_isAtOnce_5 : decode cX11_isAtOnce 5 = .ok (.getfield 70, 3) := by decide +kernel
theorem dX11_isAtOnce_8 : decode cX11_isAtOnce 8 = .ok (.iload_n 1, 1) := by decide +kernel
theorem dX11_isAtOnce_9 : decode cX11_isAtOnce 9 = .ok (.iaload, 1) := by decide +kernel
theorem dX11_isAtOnce_10 : decode cX11_isAtOnce 10 = .ok (.baload, 1) := by decide +kernel
theorem dX11_isAtOnce_11 : decode cX11_isAtOnce 11 = .ok (.ifCond .ne 18, 3) := by decide +kernel
theorem dX11_isAtOnce_14 : decode cX11_isAtOnce 14 = .ok (.aload_n 0, 1) := by decide +kernel
theorem dX11_isAtOnce_15 : decode cX11_isAtOnce 15 = .ok (.getfield 67, 3) := by decide +kernel
theorem dX11_isAtOnce_18 : decode cX11_isAtOnce 18 = .ok (.iload_n 1, 1) := by decide +kernel
theorem dX11_isAtOnce_19 : decode cX11_isAtOnce 19 = .ok (.iaload, 1) := by decide +kernel
theorem dX11_isAtOnce_20 : decode cX11_isAtOnce 20 = .ok (.aload_n 0, 1) := by decide +kernel
theorem dX11_isAtOnce_21 : decode cX11_isAtOnce 21 = .ok (.getfield 17, 3) := by decide +kernel
theorem dX11_isAtOnce_24 : decode cX11_isAtOnce 24 = .ok (.iconst 2, 1) := by decide +kernel
theorem dX11_isAtOnce_25 : decode cX11_isAtOnce 25 = .ok (.iaload, 1) := by decide +kernel
theorem dX11_isAtOnce_26 : decode cX11_isAtOnce 26 = .ok (.if_icmp .lt 7, 3) := by decide +kernel
theorem dX11_isAtOnce_29 : decode cX11_isAtOnce 29 = .ok (.iconst 1, 1) := by decide +kernel
theorem dX11_isAtOnce_30 : decode cX11_isAtOnce 30 = .ok (.goto 4, 3) := by decide +kernel
theorem dX11_isAtOnce_33 : decode cX11_isAtOnce 33 = .ok (.iconst 0, 1) := by decide +kernel
theorem dX11_isAtOnce_34 : decode cX11_isAtOnce 34 = .ok (.ireturn, 1) := by decide +kernel
theorem dX11_next_0 : decode cX11_next 0 = .ok (.aload_n 0, 1) := by decide +kernel
theorem dX11_next_1 : decode cX11_next 1 = .ok (.iconst 0, 1) := by decide +kernel
theorem dX11_next_2 : decode cX11_next 2 = .ok (.putfield 119, 3) := by decide +kernel
theorem dX11_next_5 : decode cX11_next 5 = .ok (.aload_n 0, 1) := by decide +kernel
theorem dX11_next_6 : decode cX11_next 6 = .ok (.getfield 97, 3) := by decide +kernel
theorem dX11_next_9 : decode cX11_next 9 = .ok (.iconst 0, 1) := by decide +kernel
theorem dX11_next_10 : decode cX11_next 10 = .ok (.iaload, 1) := by decide +kernel
theorem dX11_next_11 : decode cX11_next 11 = .ok (.aload_n 0, 1) := by decide +kernel
theorem dX11_next_12 : decode cX11_next 12 = .ok (.getfield 13, 3) := by decide +kernel
theorem dX11_next_15 : decode cX11_next 15 = .ok (.iconst 4, 1) := by decide +kernel
theorem dX11_next_16 : decode cX11_next 16 = .ok (.iaload, 1) := by decide +kernel
theorem dX11_next_17 : decode cX11_next 17 = .ok (.if_icmp .lt 5, 3) := by decide +kernel
theorem dX11_next_20 : decode cX11_next 20 = .ok (.iconst (-1), 1) := by decide +kernel
theorem dX11_next_21 : decode cX11_next 21 = .ok (.ireturn, 1) := by decide +kernel
theorem dX11_next_22 : decode cX11_next 22 = .ok (.aload_n 0, 1) := by decide +kernel
theorem dX11_next_23 : decode cX11_next 23 = .ok (.invokevirtual 385, 3) := by decide +kernel
theorem dX11_next_26 : decode cX11_next 26 = .ok (.aload_n 0, 1) := by decide +kernel
theorem dX11_next_27 : decode cX11_next 27 = .ok (.getfield 97, 3) := by decide +kernel
theorem dX11_next_30 : decode cX11_next 30 = .ok (.iconst 0, 1) := by decide +kernel
theorem dX11_next_31 : decode cX11_next 31 = .ok (.iaload, 1) := by decide +kernel
theorem dX11_next_32 : decode cX11_next 32 = .ok (.istore_n 1, 1) := by decide +kernel
theorem dX11_next_33 : decode cX11_next 33 = .ok (.aload_n 0, 1) := by decide +kernel
theorem dX11_next_34 : decode cX11_next 34 = .ok (.getfield 97, 3) := by decide +kernel
theorem dX11_next_37 : decode cX11_next 37 = .ok (.iconst 0, 1) := by decide +kernel
theorem dX11_next_38 : decode cX11_next 38 = .ok (.dup2, 1) := by decide +kernel
theorem dX11_next_39 : decode cX11_next 39 = .ok (.iaload, 1) := by decide +kernel
theorem dX11_next_40 : decode cX11_next 40 = .ok (.iconst 1, 1) := by decide +kernel
theorem dX11_next_41 : decode cX11_next 41 = .ok (.iadd, 1) := by decide +kernel
theorem dX11_next_42 : decode cX11_next 42 = .ok (.iastore, 1) := by decide +kernel
theorem dX11_next_43 : decode cX11_next 43 = .ok (.aload_n 0, 1) := by decide +kernel
theorem dX11_next_44 : decode cX11_next 44 = .ok (.getfield 97, 3) := by decide +kernel
theorem dX11_next_47 : decode cX11_next 47 = .ok (.iconst 1, 1) := by decide +kernel
theorem dX11_next_48 : decode cX11_next 48 = .ok (.iload_n 1, 1) := by decide +kernel
theorem dX11_next_49 : decode cX11_next 49 = .ok (.iadd, 1) := by decide +kernel
theorem dX11_next_50 : decode cX11_next 50 = .ok (.aload_n 0, 1) := by decide +kernel
theorem dX11_next_51 : decode cX11_next 51 = .ok (.getfield 79, 3) := by decide +kernel
theorem dX11_next_54 : decode cX11_next 54 = .ok (.iload_n 1, 1) := by decide +kernel
theorem dX11_next_55 : decode cX11_next 55 = .ok (.iaload, 1) := by decide +kernel
theorem dX11_next_56 : decode cX11_next 56 = .ok (.iastore, 1) := by decide +kernel
theorem dX11_next_57 : decode cX11_next 57 = .ok (.aload_n 0, 1) := by decide +kernel
theorem dX11_next_58 : decode cX11_next 58 = .ok (.iload_n 1, 1) := by decide +kernel
theorem dX11_next_59 : decode cX11_next 59 = .ok (.invokevirtual 388, 3) := by decide +kernel
theorem dX11_next_62 : decode cX11_next 62 = .ok (.ifCond .eq 12, 3) := by decide +kernel
theorem dX11_next_65 : decode cX11_next 65 = .ok (.aload_n 0, 1) := by decide +kernel
theorem dX11_next_66 : decode cX11_next 66 = .ok (.iload_n 1, 1) := by decide +kernel
theorem dX11_next_67 : decode cX11_next 67 = .ok (.iconst (-1), 1) := by decide +kernel
theorem dX11_next_68 : decode cX11_next 68 = .ok (.invokevirtual 391, 3) := by decide +kernel
theorem dX11_next_71 : decode cX11_next 71 = .ok (.goto 4, 3) := by decide +kernel
theorem dX11_next_74 : decode cX11_next 74 = .ok (.iconst 3, 1) := by decide +kernel
theorem dX11_next_75 : decode cX11_next 75 = .ok (.ireturn, 1) := by decide +kernel
theorem dX11_gains_0 : decode cX11_gains 0 = .ok (.aload_n 0, 1) := by decide +kernel
theorem dX11_gains_1 : decode cX11_gains 1 = .ok (.getfield 97, 3) := by decide +kernel
theorem dX11_gains_4 : decode cX11_gains 4 = .ok (.bipush 33, 2) := by decide +kernel
theorem dX11_gains_6 : decode cX11_gains 6 = .ok (.iload_n 1, 1) := by decide +kernel
theorem dX11_gains_7 : decode cX11_gains 7 = .ok (.iadd, 1) := by decide +kernel
theorem dX11_gains_8 : decode cX11_gains 8 = .ok (.iaload, 1) := by decide +kernel
theorem dX11_gains_9 : decode cX11_gains 9 = .ok (.bipush 9, 2) := by decide +kernel
theorem dX11_gains_11 : decode cX11_gains 11 = .ok (.if_icmp .ge 16, 3) := by decide +kernel
theorem dX11_gains_14 : decode cX11_gains 14 = .ok (.aload_n 0, 1) := by decide +kernel
theorem dX11_gains_15 : decode cX11_gains 15 = .ok (.getfield 97, 3) := by decide +kernel
theorem dX11_gains_18 : decode cX11_gains 18 = .ok (.bipush 33, 2) := by decide +kernel
theorem dX11_gains_20 : decode cX11_gains 20 = .ok (.iload_n 1, 1) := by decide +kernel
theorem dX11_gains_21 : decode cX11_gains 21 = .ok (.iadd, 1) := by decide +kernel
theorem dX11_gains_22 : decode cX11_gains 22 = .ok (.dup2, 1) := by decide +kernel
theorem dX11_gains_23 : decode cX11_gains 23 = .ok (.iaload, 1) := by decide +kernel
theorem dX11_gains_24 : decode cX11_gains 24 = .ok (.iconst 1, 1) := by decide +kernel
theorem dX11_gains_25 : decode cX11_gains 25 = .ok (.iadd, 1) := by decide +kernel
theorem dX11_gains_26 : decode cX11_gains 26 = .ok (.iastore, 1) := by decide +kernel
theorem dX11_gains_27 : decode cX11_gains 27 = .ok (.return_, 1) := by decide +kernel
theorem dX11_challenge_0 : decode cX11_challenge 0 = .ok (.aload_n 0, 1) := by decide +kernel
theorem dX11_challenge_1 : decode cX11_challenge 1 = .ok (.iconst 0, 1) := by decide +kernel
theorem dX11_challenge_2 : decode cX11_challenge 2 = .ok (.putfield 119, 3) := by decide +kernel
theorem dX11_challenge_5 : decode cX11_challenge 5 = .ok (.aload_n 0, 1) := by decide +kernel
theorem dX11_challenge_6 : decode cX11_challenge 6 = .ok (.iload_n 1, 1) := by decide +kernel
theorem dX11_challenge_7 : decode cX11_challenge 7 = .ok (.invokevirtual 336, 3) := by decide +kernel
theorem dX11_challenge_10 : decode cX11_challenge 10 = .ok (.ifCond .eq 11, 3) := by decide +kernel
theorem dX11_challenge_13 : decode cX11_challenge 13 = .ok (.aload_n 0, 1) := by decide +kernel
theorem dX11_challenge_14 : decode cX11_challenge 14 = .ok (.iload_n 2, 1) := by decide +kernel
theorem dX11_challenge_15 : decode cX11_challenge 15 = .ok (.invokevirtual 343, 3) := by decide +kernel
theorem dX11_challenge_18 : decode cX11_challenge 18 = .ok (.ifCond .ne 5, 3) := by decide +kernel
theorem dX11_challenge_21 : decode cX11_challenge 21 = .ok (.iconst (-1), 1) := by decide +kernel
theorem dX11_challenge_22 : decode cX11_challenge 22 = .ok (.ireturn, 1) := by decide +kernel
theorem dX11_challenge_23 : decode cX11_challenge 23 = .ok (.aload_n 0, 1) := by decide +kernel
theorem dX11_challenge_24 : decode cX11_challenge 24 = .ok (.getfield 97, 3) := by decide +kernel
theorem dX11_challenge_27 : decode cX11_challenge 27 = .ok (.bipush 33, 2) := by decide +kernel
theorem dX11_challenge_29 : decode cX11_challenge 29 = .ok (.iload_n 1, 1) := by decide +kernel
theorem dX11_challenge_30 : decode cX11_challenge 30 = .ok (.iadd, 1) := by decide +kernel
theorem dX11_challenge_31 : decode cX11_challenge 31 = .ok (.iaload, 1) := by decide +kernel
theorem dX11_challenge_32 : decode cX11_challenge 32 = .ok (.ifCond .eq 58, 3) := by decide +kernel
theorem dX11_challenge_35 : decode cX11_challenge 35 = .ok (.iload_n 2, 1) := by decide +kernel
theorem dX11_challenge_36 : decode cX11_challenge 36 = .ok (.aload_n 0, 1) := by decide +kernel
theorem dX11_challenge_37 : decode cX11_challenge 37 = .ok (.getfield 97, 3) := by decide +kernel
theorem dX11_challenge_40 : decode cX11_challenge 40 = .ok (.iconst 0, 1) := by decide +kernel
theorem dX11_challenge_41 : decode cX11_challenge 41 = .ok (.iaload, 1) := by decide +kernel
theorem dX11_challenge_42 : decode cX11_challenge 42 = .ok (.if_icmp .ge 48, 3) := by decide +kernel
theorem dX11_challenge_45 : decode cX11_challenge 45 = .ok (.aload_n 0, 1) := by decide +kernel
theorem dX11_challenge_46 : decode cX11_challenge 46 = .ok (.getfield 97, 3) := by decide +kernel
theorem dX11_challenge_49 : decode cX11_challenge 49 = .ok (.iconst 0, 1) := by decide +kernel
theorem dX11_challenge_50 : decode cX11_challenge 50 = .ok (.iaload, 1) := by decide +kernel
theorem dX11_challenge_51 : decode cX11_challenge 51 = .ok (.iconst 1, 1) := by decide +kernel
theorem dX11_challenge_52 : decode cX11_challenge 52 = .ok (.isub, 1) := by decide +kernel
theorem dX11_challenge_53 : decode cX11_challenge 53 = .ok (.iload_n 2, 1) := by decide +kernel
theorem dX11_challenge_54 : decode cX11_challenge 54 = .ok (.isub, 1) := by decide +kernel
theorem dX11_challenge_55 : decode cX11_challenge 55 = .ok (.aload_n 0, 1) := by decide +kernel
theorem dX11_challenge_56 : decode cX11_challenge 56 = .ok (.getfield 17, 3) := by decide +kernel
theorem dX11_challenge_59 : decode cX11_challenge 59 = .ok (.iconst 3, 1) := by decide +kernel
theorem dX11_challenge_60 : decode cX11_challenge 60 = .ok (.iaload, 1) := by decide +kernel
theorem dX11_challenge_61 : decode cX11_challenge 61 = .ok (.if_icmp .gt 29, 3) := by decide +kernel
theorem dX11_challenge_64 : decode cX11_challenge 64 = .ok (.aload_n 0, 1) := by decide +kernel
theorem dX11_challenge_65 : decode cX11_challenge 65 = .ok (.getfield 97, 3) := by decide +kernel
theorem dX11_challenge_68 : decode cX11_challenge 68 = .ok (.bipush 9, 2) := by decide +kernel
theorem dX11_challenge_70 : decode cX11_challenge 70 = .ok (.iload_n 2, 1) := by decide +kernel
theorem dX11_challenge_71 : decode cX11_challenge 71 = .ok (.iadd, 1) := by decide +kernel
theorem dX11_challenge_72 : decode cX11_challenge 72 = .ok (.iaload, 1) := by decide +kernel
theorem dX11_challenge_73 : decode cX11_challenge 73 = .ok (.iconst 1, 1) := by decide +kernel
theorem dX11_challenge_74 : decode cX11_challenge 74 = .ok (.if_icmp .eq 16, 3) := by decide +kernel
theorem dX11_challenge_77 : decode cX11_challenge 77 = .ok (.aload_n 0, 1) := by decide +kernel
theorem dX11_challenge_78 : decode cX11_challenge 78 = .ok (.getfield 97, 3) := by decide +kernel
theorem dX11_challenge_81 : decode cX11_challenge 81 = .ok (.bipush 17, 2) := by decide +kernel
theorem dX11_challenge_83 : decode cX11_challenge 83 = .ok (.iload_n 2, 1) := by decide +kernel
theorem dX11_challenge_84 : decode cX11_challenge 84 = .ok (.iadd, 1) := by decide +kernel
theorem dX11_challenge_85 : decode cX11_challenge 85 = .ok (.iaload, 1) := by decide +kernel
theorem dX11_challenge_86 : decode cX11_challenge 86 = .ok (.iconst 1, 1) := by decide +kernel
theorem dX11_challenge_87 : decode cX11_challenge 87 = .ok (.if_icmp .ne 6, 3) := by decide +kernel
theorem dX11_challenge_90 : decode cX11_challenge 90 = .ok (.bipush (-2), 2) := by decide +kernel
theorem dX11_challenge_92 : decode cX11_challenge 92 = .ok (.ireturn, 1) := by decide +kernel
theorem dX11_challenge_93 : decode cX11_challenge 93 = .ok (.aload_n 0, 1) := by decide +kernel
theorem dX11_challenge_94 : decode cX11_challenge 94 = .ok (.invokevirtual 385, 3) := by decide +kernel
theorem dX11_challenge_97 : decode cX11_challenge 97 = .ok (.aload_n 0, 1) := by decide +kernel
theorem dX11_challenge_98 : decode cX11_challenge 98 = .ok (.iload_n 2, 1) := by decide +kernel
theorem dX11_challenge_99 : decode cX11_challenge 99 = .ok (.iload_n 1, 1) := by decide +kernel
theorem dX11_challenge_100 : decode cX11_challenge 100 = .ok (.invokevirtual 391, 3) := by decide +kernel
theorem dX11_challenge_103 : decode cX11_challenge 103 = .ok (.istore_n 3, 1) := by decide +kernel
theorem dX11_challenge_104 : decode cX11_challenge 104 = .ok (.iload_n 3, 1) := by decide +kernel
theorem dX11_challenge_105 : decode cX11_challenge 105 = .ok (.iconst 2, 1) := by decide +kernel
theorem dX11_challenge_106 : decode cX11_challenge 106 = .ok (.if_icmp .ne 52, 3) := by decide +kernel
theorem dX11_challenge_109 : decode cX11_challenge 109 = .ok (.aload_n 0, 1) := by decide +kernel
theorem dX11_challenge_110 : decode cX11_challenge 110 = .ok (.getfield 97, 3) := by decide +kernel
theorem dX11_challenge_113 : decode cX11_challenge 113 = .ok (.bipush 37, 2) := by decide +kernel
theorem dX11_challenge_115 : decode cX11_challenge 115 = .ok (.iload_n 1, 1) := by decide +kernel
theorem dX11_challenge_116 : decode cX11_challenge 116 = .ok (.iadd, 1) := by decide +kernel
theorem dX11_challenge_117 : decode cX11_challenge 117 = .ok (.dup2, 1) := by decide +kernel
theorem dX11_challenge_118 : decode cX11_challenge 118 = .ok (.iaload, 1) := by decide +kernel
theorem dX11_challenge_119 : decode cX11_challenge 119 = .ok (.iconst 1, 1) := by decide +kernel
theorem dX11_challenge_120 : decode cX11_challenge 120 = .ok (.iadd, 1) := by decide +kernel
theorem dX11_challenge_121 : decode cX11_challenge 121 = .ok (.iastore, 1) := by decide +kernel
theorem dX11_challenge_122 : decode cX11_challenge 122 = .ok (.aload_n 0, 1) := by decide +kernel
theorem dX11_challenge_123 : decode cX11_challenge 123 = .ok (.getfield 17, 3) := by decide +kernel
theorem dX11_challenge_126 : decode cX11_challenge 126 = .ok (.iconst 1, 1) := by decide +kernel
theorem dX11_challenge_127 : decode cX11_challenge 127 = .ok (.iaload, 1) := by decide +kernel
theorem dX11_challenge_128 : decode cX11_challenge 128 = .ok (.ifCond .le 55, 3) := by decide +kernel
theorem dX11_challenge_131 : decode cX11_challenge 131 = .ok (.aload_n 0, 1) := by decide +kernel
theorem dX11_challenge_132 : decode cX11_challenge 132 = .ok (.getfield 97, 3) := by decide +kernel
theorem dX11_challenge_135 : decode cX11_challenge 135 = .ok (.bipush 37, 2) := by decide +kernel
theorem dX11_challenge_137 : decode cX11_challenge 137 = .ok (.iload_n 1, 1) := by decide +kernel
theorem dX11_challenge_138 : decode cX11_challenge 138 = .ok (.iadd, 1) := by decide +kernel
theorem dX11_challenge_139 : decode cX11_challenge 139 = .ok (.iaload, 1) := by decide +kernel
theorem dX11_challenge_140 : decode cX11_challenge 140 = .ok (.aload_n 0, 1) := by decide +kernel
theorem dX11_challenge_141 : decode cX11_challenge 141 = .ok (.getfield 17, 3) := by decide +kernel
theorem dX11_challenge_144 : decode cX11_challenge 144 = .ok (.iconst 1, 1) := by decide +kernel
theorem dX11_challenge_145 : decode cX11_challenge 145 = .ok (.iaload, 1) := by decide +kernel
theorem dX11_challenge_146 : decode cX11_challenge 146 = .ok (.irem, 1) := by decide +kernel
theorem dX11_challenge_147 : decode cX11_challenge 147 = .ok (.ifCond .ne 36, 3) := by decide +kernel
theorem dX11_challenge_150 : decode cX11_challenge 150 = .ok (.aload_n 0, 1) := by decide +kernel
theorem dX11_challenge_151 : decode cX11_challenge 151 = .ok (.iload_n 1, 1) := by decide +kernel
theorem dX11_challenge_152 : decode cX11_challenge 152 = .ok (.invokevirtual 394, 3) := by decide +kernel
theorem dX11_challenge_155 : decode cX11_challenge 155 = .ok (.goto 28, 3) := by decide +kernel
theorem dX11_challenge_158 : decode cX11_challenge 158 = .ok (.aload_n 0, 1) := by decide +kernel
theorem dX11_challenge_159 : decode cX11_challenge 159 = .ok (.getfield 97, 3) := by decide +kernel
theorem dX11_challenge_162 : decode cX11_challenge 162 = .ok (.bipush 33, 2) := by decide +kernel
theorem dX11_challenge_164 : decode cX11_challenge 164 = .ok (.iload_n 1, 1) := by decide +kernel
theorem dX11_challenge_165 : decode cX11_challenge 165 = .ok (.iadd, 1) := by decide +kernel
theorem dX11_challenge_166 : decode cX11_challenge 166 = .ok (.dup2, 1) := by decide +kernel
theorem dX11_challenge_167 : decode cX11_challenge 167 = .ok (.iaload, 1) := by decide +kernel
theorem dX11_challenge_168 : decode cX11_challenge 168 = .ok (.iconst 1, 1) := by decide +kernel
theorem dX11_challenge_169 : decode cX11_challenge 169 = .ok (.isub, 1) := by decide +kernel
theorem dX11_challenge_170 : decode cX11_challenge 170 = .ok (.iastore, 1) := by decide +kernel
theorem dX11_challenge_171 : decode cX11_challenge 171 = .ok (.aload_n 0, 1) := by decide +kernel
theorem dX11_challenge_172 : decode cX11_challenge 172 = .ok (.getfield 97, 3) := by decide +kernel
theorem dX11_challenge_175 : decode cX11_challenge 175 = .ok (.bipush 25, 2) := by decide +kernel
theorem dX11_challenge_177 : decode cX11_challenge 177 = .ok (.iload_n 2, 1) := by decide +kernel
theorem dX11_challenge_178 : decode cX11_challenge 178 = .ok (.iadd, 1) := by decide +kernel
theorem dX11_challenge_179 : decode cX11_challenge 179 = .ok (.iload_n 1, 1) := by decide +kernel
theorem dX11_challenge_180 : decode cX11_challenge 180 = .ok (.iconst 1, 1) := by decide +kernel
theorem dX11_challenge_181 : decode cX11_challenge 181 = .ok (.iadd, 1) := by decide +kernel
theorem dX11_challenge_182 : decode cX11_challenge 182 = .ok (.iastore, 1) := by decide +kernel
theorem dX11_challenge_183 : decode cX11_challenge 183 = .ok (.iload_n 3, 1) := by decide +kernel
theorem dX11_challenge_184 : decode cX11_challenge 184 = .ok (.ireturn, 1) := by decide +kernel
theorem dX11_against_0 : decode cX11_against 0 = .ok (.iconst 0, 1) := by decide +kernel
theorem dX11_against_1 : decode cX11_against 1 = .ok (.istore_n 3, 1) := by decide +kernel
theorem dX11_against_2 : decode cX11_against 2 = .ok (.aload_n 0, 1) := by decide +kernel
theorem dX11_against_3 : decode cX11_against 3 = .ok (.iload_n 2, 1) := by decide +kernel
theorem dX11_against_4 : decode cX11_against 4 = .ok (.invokevirtual 369, 3) := by decide +kernel
theorem dX11_against_7 : decode cX11_against 7 = .ok (.istore 4, 2) := by decide +kernel
theorem dX11_against_9 : decode cX11_against 9 = .ok (.iconst 0, 1) := by decide +kernel
theorem dX11_against_10 : decode cX11_against 10 = .ok (.istore 5, 2) := by decide +kernel
theorem dX11_against_12 : decode cX11_against 12 = .ok (.iload 5, 2) := by decide +kernel
theorem dX11_against_14 : decode cX11_against 14 = .ok (.aload_n 0, 1) := by decide +kernel
theorem dX11_against_15 : decode cX11_against 15 = .ok (.getfield 61, 3) := by decide +kernel
theorem dX11_against_18 : decode cX11_against 18 = .ok (.iload_n 1, 1) := by decide +kernel
theorem dX11_against_19 : decode cX11_against 19 = .ok (.iaload, 1) := by decide +kernel
theorem dX11_against_20 : decode cX11_against 20 = .ok (.if_icmp .ge 59, 3) := by decide +kernel
theorem dX11_against_23 : decode cX11_against 23 = .ok (.aload_n 0, 1) := by decide +kernel
theorem dX11_against_24 : decode cX11_against 24 = .ok (.iload_n 2, 1) := by decide +kernel
theorem dX11_against_25 : decode cX11_against 25 = .ok (.aload_n 0, 1) := by decide +kernel
theorem dX11_against_26 : decode cX11_against 26 = .ok (.iload_n 2, 1) := by decide +kernel
theorem dX11_against_27 : decode cX11_against 27 = .ok (.aload_n 0, 1) := by decide +kernel
theorem dX11_against_28 : decode cX11_against 28 = .ok (.getfield 64, 3) := by decide +kernel
theorem dX11_against_31 : decode cX11_against 31 = .ok (.bipush 7, 2) := by decide +kernel
theorem dX11_against_33 : decode cX11_against 33 = .ok (.iload_n 1, 1) := by decide +kernel
theorem dX11_against_34 : decode cX11_against 34 = .ok (.imul, 1) := by decide +kernel
theorem dX11_against_35 : decode cX11_against 35 = .ok (.iload 5, 2) := by decide +kernel
theorem dX11_against_37 : decode cX11_against 37 = .ok (.iadd, 1) := by decide +kernel
theorem dX11_against_38 : decode cX11_against 38 = .ok (.iaload, 1) := by decide +kernel
theorem dX11_against_39 : decode cX11_against 39 = .ok (.invokevirtual 346, 3) := by decide +kernel
theorem dX11_against_42 : decode cX11_against 42 = .ok (.invokevirtual 331, 3) := by decide +kernel
theorem dX11_against_45 : decode cX11_against 45 = .ok (.istore 6, 2) := by decide +kernel
theorem dX11_against_47 : decode cX11_against 47 = .ok (.iload_n 3, 1) := by decide +kernel
theorem dX11_against_48 : decode cX11_against 48 = .ok (.iload 6, 2) := by decide +kernel
theorem dX11_against_50 : decode cX11_against 50 = .ok (.invokestatic 358, 3) := by decide +kernel
theorem dX11_against_53 : decode cX11_against 53 = .ok (.ifCond .eq 17, 3) := by decide +kernel
theorem dX11_against_56 : decode cX11_against 56 = .ok (.iload 6, 2) := by decide +kernel
theorem dX11_against_58 : decode cX11_against 58 = .ok (.iload 4, 2) := by decide +kernel
theorem dX11_against_60 : decode cX11_against 60 = .ok (.if_icmp .eq 10, 3) := by decide +kernel
theorem dX11_against_63 : decode cX11_against 63 = .ok (.iconst 1, 1) := by decide +kernel
theorem dX11_against_64 : decode cX11_against 64 = .ok (.iload 5, 2) := by decide +kernel
theorem dX11_against_66 : decode cX11_against 66 = .ok (.ishl, 1) := by decide +kernel
theorem dX11_against_67 : decode cX11_against 67 = .ok (.goto 4, 3) := by decide +kernel
theorem dX11_against_70 : decode cX11_against 70 = .ok (.iconst 0, 1) := by decide +kernel
theorem dX11_against_71 : decode cX11_against 71 = .ok (.ior, 1) := by decide +kernel
theorem dX11_against_72 : decode cX11_against 72 = .ok (.istore_n 3, 1) := by decide +kernel
theorem dX11_against_73 : decode cX11_against 73 = .ok (.iinc 5 1, 3) := by decide +kernel
theorem dX11_against_76 : decode cX11_against 76 = .ok (.goto (-64), 3) := by decide +kernel
theorem dX11_against_79 : decode cX11_against 79 = .ok (.iload_n 3, 1) := by decide +kernel
theorem dX11_against_80 : decode cX11_against 80 = .ok (.ireturn, 1) := by decide +kernel
theorem dX11_put_0 : decode cX11_put 0 = .ok (.aload_n 0, 1) := by decide +kernel
theorem dX11_put_1 : decode cX11_put 1 = .ok (.iconst 0, 1) := by decide +kernel
theorem dX11_put_2 : decode cX11_put 2 = .ok (.putfield 119, 3) := by decide +kernel
theorem dX11_put_5 : decode cX11_put 5 = .ok (.aload_n 0, 1) := by decide +kernel
theorem dX11_put_6 : decode cX11_put 6 = .ok (.iload_n 1, 1) := by decide +kernel
theorem dX11_put_7 : decode cX11_put 7 = .ok (.invokevirtual 397, 3) := by decide +kernel
theorem dX11_put_10 : decode cX11_put 10 = .ok (.ifCond .eq 11, 3) := by decide +kernel
theorem dX11_put_13 : decode cX11_put 13 = .ok (.aload_n 0, 1) := by decide +kernel
theorem dX11_put_14 : decode cX11_put 14 = .ok (.iload_n 2, 1) := by decide +kernel
theorem dX11_put_15 : decode cX11_put 15 = .ok (.invokevirtual 343, 3) := by decide +kernel
theorem dX11_put_18 : decode cX11_put 18 = .ok (.ifCond .ne 5, 3) := by decide +kernel
theorem dX11_put_21 : decode cX11_put 21 = .ok (.iconst (-1), 1) := by decide +kernel
theorem dX11_put_22 : decode cX11_put 22 = .ok (.ireturn, 1) := by decide +kernel
theorem dX11_put_23 : decode cX11_put 23 = .ok (.iload_n 2, 1) := by decide +kernel
theorem dX11_put_24 : decode cX11_put 24 = .ok (.aload_n 0, 1) := by decide +kernel
theorem dX11_put_25 : decode cX11_put 25 = .ok (.getfield 97, 3) := by decide +kernel
theorem dX11_put_28 : decode cX11_put 28 = .ok (.iconst 0, 1) := by decide +kernel
theorem dX11_put_29 : decode cX11_put 29 = .ok (.iaload, 1) := by decide +kernel
theorem dX11_put_30 : decode cX11_put 30 = .ok (.if_icmp .ge 16, 3) := by decide +kernel
theorem dX11_put_33 : decode cX11_put 33 = .ok (.aload_n 0, 1) := by decide +kernel
theorem dX11_put_34 : decode cX11_put 34 = .ok (.getfield 97, 3) := by decide +kernel
theorem dX11_put_37 : decode cX11_put 37 = .ok (.bipush 17, 2) := by decide +kernel
theorem dX11_put_39 : decode cX11_put 39 = .ok (.iload_n 2, 1) := by decide +kernel
theorem dX11_put_40 : decode cX11_put 40 = .ok (.iadd, 1) := by decide +kernel
theorem dX11_put_41 : decode cX11_put 41 = .ok (.iaload, 1) := by decide +kernel
theorem dX11_put_42 : decode cX11_put 42 = .ok (.iconst 1, 1) := by decide +kernel
theorem dX11_put_43 : decode cX11_put 43 = .ok (.if_icmp .ne 6, 3) := by decide +kernel
theorem dX11_put_46 : decode cX11_put 46 = .ok (.bipush (-2), 2) := by decide +kernel
theorem dX11_put_48 : decode cX11_put 48 = .ok (.ireturn, 1) := by decide +kernel
theorem dX11_put_49 : decode cX11_put 49 = .ok (.aload_n 0, 1) := by decide +kernel
theorem dX11_put_50 : decode cX11_put 50 = .ok (.invokevirtual 385, 3) := by decide +kernel
theorem dX11_put_53 : decode cX11_put 53 = .ok (.aload_n 0, 1) := by decide +kernel
theorem dX11_put_54 : decode cX11_put 54 = .ok (.iload_n 1, 1) := by decide +kernel
theorem dX11_put_55 : decode cX11_put 55 = .ok (.iload_n 2, 1) := by decide +kernel
theorem dX11_put_56 : decode cX11_put 56 = .ok (.invokevirtual 400, 3) := by decide +kernel
theorem dX11_put_59 : decode cX11_put 59 = .ok (.invokestatic 352, 3) := by decide +kernel
theorem dX11_put_62 : decode cX11_put 62 = .ok (.aload_n 0, 1) := by decide +kernel
theorem dX11_put_63 : decode cX11_put 63 = .ok (.getfield 58, 3) := by decide +kernel
theorem dX11_put_66 : decode cX11_put 66 = .ok (.iload_n 1, 1) := by decide +kernel
theorem dX11_put_67 : decode cX11_put 67 = .ok (.iaload, 1) := by decide +kernel
theorem dX11_put_68 : decode cX11_put 68 = .ok (.if_icmp .lt 7, 3) := by decide +kernel
theorem dX11_put_71 : decode cX11_put 71 = .ok (.iconst 1, 1) := by decide +kernel
theorem dX11_put_72 : decode cX11_put 72 = .ok (.goto 4, 3) := by decide +kernel
theorem dX11_put_75 : decode cX11_put 75 = .ok (.iconst 0, 1) := by decide +kernel
theorem dX11_put_76 : decode cX11_put 76 = .ok (.istore_n 3, 1) := by decide +kernel
theorem dX11_put_77 : decode cX11_put 77 = .ok (.aload_n 0, 1) := by decide +kernel
theorem dX11_put_78 : decode cX11_put 78 = .ok (.getfield 97, 3) := by decide +kernel
theorem dX11_put_81 : decode cX11_put 81 = .ok (.bipush 17, 2) := by decide +kernel
theorem dX11_put_83 : decode cX11_put 83 = .ok (.iload_n 2, 1) := by decide +kernel
theorem dX11_put_84 : decode cX11_put 84 = .ok (.iadd, 1) := by decide +kernel
theorem dX11_put_85 : decode cX11_put 85 = .ok (.iconst 1, 1) := by decide +kernel
theorem dX11_put_86 : decode cX11_put 86 = .ok (.iastore, 1) := by decide +kernel
theorem dX11_put_87 : decode cX11_put 87 = .ok (.aload_n 0, 1) := by decide +kernel
theorem dX11_put_88 : decode cX11_put 88 = .ok (.iload_n 2, 1) := by decide +kernel
theorem dX11_put_89 : decode cX11_put 89 = .ok (.bipush 10, 2) := by decide +kernel
theorem dX11_put_91 : decode cX11_put 91 = .ok (.iload_n 1, 1) := by decide +kernel
theorem dX11_put_92 : decode cX11_put 92 = .ok (.iadd, 1) := by decide +kernel
theorem dX11_put_93 : decode cX11_put 93 = .ok (.iload_n 3, 1) := by decide +kernel
theorem dX11_put_94 : decode cX11_put 94 = .ok (.ifCond .eq 7, 3) := by decide +kernel
theorem dX11_put_97 : decode cX11_put 97 = .ok (.iconst 2, 1) := by decide +kernel
theorem dX11_put_98 : decode cX11_put 98 = .ok (.goto 4, 3) := by decide +kernel
theorem dX11_put_101 : decode cX11_put 101 = .ok (.iconst 0, 1) := by decide +kernel
theorem dX11_put_102 : decode cX11_put 102 = .ok (.iconst 0, 1) := by decide +kernel
theorem dX11_put_103 : decode cX11_put 103 = .ok (.invokevirtual 378, 3) := by decide +kernel
theorem dX11_put_106 : decode cX11_put 106 = .ok (.iload_n 3, 1) := by decide +kernel
theorem dX11_put_107 : decode cX11_put 107 = .ok (.ifCond .ne 5, 3) := by decide +kernel
theorem dX11_put_110 : decode cX11_put 110 = .ok (.iconst 0, 1) := by decide +kernel
theorem dX11_put_111 : decode cX11_put 111 = .ok (.ireturn, 1) := by decide +kernel
theorem dX11_put_112 : decode cX11_put 112 = .ok (.aload_n 0, 1) := by decide +kernel
theorem dX11_put_113 : decode cX11_put 113 = .ok (.getfield 97, 3) := by decide +kernel
theorem dX11_put_116 : decode cX11_put 116 = .ok (.iconst 1, 1) := by decide +kernel
theorem dX11_put_117 : decode cX11_put 117 = .ok (.iload_n 2, 1) := by decide +kernel
theorem dX11_put_118 : decode cX11_put 118 = .ok (.iadd, 1) := by decide +kernel
theorem dX11_put_119 : decode cX11_put 119 = .ok (.iconst 1, 1) := by decide +kernel
theorem dX11_put_120 : decode cX11_put 120 = .ok (.aload_n 0, 1) := by decide +kernel
theorem dX11_put_121 : decode cX11_put 121 = .ok (.getfield 97, 3) := by decide +kernel
theorem dX11_put_124 : decode cX11_put 124 = .ok (.iconst 1, 1) := by decide +kernel
theorem dX11_put_125 : decode cX11_put 125 = .ok (.iload_n 2, 1) := by decide +kernel
theorem dX11_put_126 : decode cX11_put 126 = .ok (.iadd, 1) := by decide +kernel
theorem dX11_put_127 : decode cX11_put 127 = .ok (.iaload, 1) := by decide +kernel
theorem dX11_put_128 : decode cX11_put 128 = .ok (.isub, 1) := by decide +kernel
theorem dX11_put_129 : decode cX11_put 129 = .ok (.iastore, 1) := by decide +kernel
theorem dX11_put_130 : decode cX11_put 130 = .ok (.aload_n 0, 1) := by decide +kernel
theorem dX11_put_131 : decode cX11_put 131 = .ok (.getfield 97, 3) := by decide +kernel
theorem dX11_put_134 : decode cX11_put 134 = .ok (.bipush 25, 2) := by decide +kernel
theorem dX11_put_136 : decode cX11_put 136 = .ok (.iload_n 2, 1) := by decide +kernel
theorem dX11_put_137 : decode cX11_put 137 = .ok (.iadd, 1) := by decide +kernel
theorem dX11_put_138 : decode cX11_put 138 = .ok (.iaload, 1) := by decide +kernel
theorem dX11_put_139 : decode cX11_put 139 = .ok (.ifCond .le 18, 3) := by decide +kernel
theorem dX11_put_142 : decode cX11_put 142 = .ok (.aload_n 0, 1) := by decide +kernel
theorem dX11_put_143 : decode cX11_put 143 = .ok (.aload_n 0, 1) := by decide +kernel
theorem dX11_put_144 : decode cX11_put 144 = .ok (.getfield 97, 3) := by decide +kernel
theorem dX11_put_147 : decode cX11_put 147 = .ok (.bipush 25, 2) := by decide +kernel
theorem dX11_put_149 : decode cX11_put 149 = .ok (.iload_n 2, 1) := by decide +kernel
theorem dX11_put_150 : decode cX11_put 150 = .ok (.iadd, 1) := by decide +kernel
theorem dX11_put_151 : decode cX11_put 151 = .ok (.iaload, 1) := by decide +kernel
theorem dX11_put_152 : decode cX11_put 152 = .ok (.iconst 1, 1) := by decide +kernel
theorem dX11_put_153 : decode cX11_put 153 = .ok (.isub, 1) := by decide +kernel
theorem dX11_put_154 : decode cX11_put 154 = .ok (.invokevirtual 394, 3) := by decide +kernel
theorem dX11_put_157 : decode cX11_put 157 = .ok (.aload_n 0, 1) := by decide +kernel
theorem dX11_put_158 : decode cX11_put 158 = .ok (.getfield 97, 3) := by decide +kernel
theorem dX11_put_161 : decode cX11_put 161 = .ok (.bipush 25, 2) := by decide +kernel
theorem dX11_put_163 : decode cX11_put 163 = .ok (.iload_n 2, 1) := by decide +kernel
theorem dX11_put_164 : decode cX11_put 164 = .ok (.iadd, 1) := by decide +kernel
theorem dX11_put_165 : decode cX11_put 165 = .ok (.iconst 0, 1) := by decide +kernel
theorem dX11_put_166 : decode cX11_put 166 = .ok (.iastore, 1) := by decide +kernel
theorem dX11_put_167 : decode cX11_put 167 = .ok (.iconst 1, 1) := by decide +kernel
theorem dX11_put_168 : decode cX11_put 168 = .ok (.ireturn, 1) := by decide +kernel
theorem dX11_votes_0 : decode cX11_votes 0 = .ok (.aload_n 0, 1) := by decide +kernel
theorem dX11_votes_1 : decode cX11_votes 1 = .ok (.iconst 0, 1) := by decide +kernel
theorem dX11_votes_2 : decode cX11_votes 2 = .ok (.putfield 119, 3) := by decide +kernel
theorem dX11_votes_5 : decode cX11_votes 5 = .ok (.aload_n 0, 1) := by decide +kernel
theorem dX11_votes_6 : decode cX11_votes 6 = .ok (.iload_n 1, 1) := by decide +kernel
theorem dX11_votes_7 : decode cX11_votes 7 = .ok (.invokevirtual 397, 3) := by decide +kernel
theorem dX11_votes_10 : decode cX11_votes 10 = .ok (.ifCond .eq 20, 3) := by decide +kernel
theorem dX11_votes_13 : decode cX11_votes 13 = .ok (.aload_n 0, 1) := by decide +kernel
theorem dX11_votes_14 : decode cX11_votes 14 = .ok (.iload_n 2, 1) := by decide +kernel
theorem dX11_votes_15 : decode cX11_votes 15 = .ok (.invokevirtual 343, 3) := by decide +kernel
theorem dX11_votes_18 : decode cX11_votes 18 = .ok (.ifCond .eq 12, 3) := by decide +kernel
theorem dX11_votes_21 : decode cX11_votes 21 = .ok (.aload_n 0, 1) := by decide +kernel
theorem dX11_votes_22 : decode cX11_votes 22 = .ok (.iload_n 1, 1) := by decide +kernel
theorem dX11_votes_23 : decode cX11_votes 23 = .ok (.iload_n 2, 1) := by decide +kernel
theorem dX11_votes_24 : decode cX11_votes 24 = .ok (.invokevirtual 400, 3) := by decide +kernel
theorem dX11_votes_27 : decode cX11_votes 27 = .ok (.goto 4, 3) := by decide +kernel
theorem dX11_votes_30 : decode cX11_votes 30 = .ok (.iconst (-1), 1) := by decide +kernel
theorem dX11_votes_31 : decode cX11_votes 31 = .ok (.ireturn, 1) := by decide +kernel
theorem dX11_pivot_0 : decode cX11_pivot 0 = .ok (.aload_n 0, 1) := by decide +kernel
theorem dX11_pivot_1 : decode cX11_pivot 1 = .ok (.iconst 0, 1) := by decide +kernel
theorem dX11_pivot_2 : decode cX11_pivot 2 = .ok (.putfield 119, 3) := by decide +kernel
theorem dX11_pivot_5 : decode cX11_pivot 5 = .ok (.aload_n 0, 1) := by decide +kernel
theorem dX11_pivot_6 : decode cX11_pivot 6 = .ok (.iload_n 1, 1) := by decide +kernel
theorem dX11_pivot_7 : decode cX11_pivot 7 = .ok (.invokevirtual 397, 3) := by decide +kernel
theorem dX11_pivot_10 : decode cX11_pivot 10 = .ok (.ifCond .eq 11, 3) := by decide +kernel
theorem dX11_pivot_13 : decode cX11_pivot 13 = .ok (.aload_n 0, 1) := by decide +kernel
theorem dX11_pivot_14 : decode cX11_pivot 14 = .ok (.iload_n 2, 1) := by decide +kernel
theorem dX11_pivot_15 : decode cX11_pivot 15 = .ok (.invokevirtual 343, 3) := by decide +kernel
theorem dX11_pivot_18 : decode cX11_pivot 18 = .ok (.ifCond .ne 5, 3) := by decide +kernel
theorem dX11_pivot_21 : decode cX11_pivot 21 = .ok (.iconst (-1), 1) := by decide +kernel
theorem dX11_pivot_22 : decode cX11_pivot 22 = .ok (.ireturn, 1) := by decide +kernel
theorem dX11_pivot_23 : decode cX11_pivot 23 = .ok (.aload_n 0, 1) := by decide +kernel
theorem dX11_pivot_24 : decode cX11_pivot 24 = .ok (.iload_n 1, 1) := by decide +kernel
theorem dX11_pivot_25 : decode cX11_pivot 25 = .ok (.iload_n 2, 1) := by decide +kernel
theorem dX11_pivot_26 : decode cX11_pivot 26 = .ok (.invokevirtual 400, 3) := by decide +kernel
theorem dX11_pivot_29 : decode cX11_pivot 29 = .ok (.istore_n 3, 1) := by decide +kernel
theorem dX11_pivot_30 : decode cX11_pivot 30 = .ok (.iload_n 3, 1) := by decide +kernel
theorem dX11_pivot_31 : decode cX11_pivot 31 = .ok (.invokestatic 352, 3) := by decide +kernel
theorem dX11_pivot_34 : decode cX11_pivot 34 = .ok (.aload_n 0, 1) := by decide +kernel
theorem dX11_pivot_35 : decode cX11_pivot 35 = .ok (.getfield 58, 3) := by decide +kernel
theorem dX11_pivot_38 : decode cX11_pivot 38 = .ok (.iload_n 1, 1) := by decide +kernel
theorem dX11_pivot_39 : decode cX11_pivot 39 = .ok (.iaload, 1) := by decide +kernel
theorem dX11_pivot_40 : decode cX11_pivot 40 = .ok (.if_icmp .ne 7, 3) := by decide +kernel
theorem dX11_pivot_43 : decode cX11_pivot 43 = .ok (.iload_n 3, 1) := by decide +kernel
theorem dX11_pivot_44 : decode cX11_pivot 44 = .ok (.goto 4, 3) := by decide +kernel
theorem dX11_pivot_47 : decode cX11_pivot 47 = .ok (.iconst 0, 1) := by decide +kernel
theorem dX11_pivot_48 : decode cX11_pivot 48 = .ok (.ireturn, 1) := by decide +kernel
theorem dX11_boards_0 : decode cX11_boards 0 = .ok (.aload_n 0, 1) := by decide +kernel
theorem dX11_boards_1 : decode cX11_boards 1 = .ok (.iconst 0, 1) := by decide +kernel
theorem dX11_boards_2 : decode cX11_boards 2 = .ok (.putfield 119, 3) := by decide +kernel
theorem dX11_boards_5 : decode cX11_boards 5 = .ok (.aload_n 0, 1) := by decide +kernel
theorem dX11_boards_6 : decode cX11_boards 6 = .ok (.iload_n 1, 1) := by decide +kernel
theorem dX11_boards_7 : decode cX11_boards 7 = .ok (.invokevirtual 343, 3) := by decide +kernel
theorem dX11_boards_10 : decode cX11_boards 10 = .ok (.ifCond .ne 5, 3) := by decide +kernel
theorem dX11_boards_13 : decode cX11_boards 13 = .ok (.iconst (-1), 1) := by decide +kernel
theorem dX11_boards_14 : decode cX11_boards 14 = .ok (.ireturn, 1) := by decide +kernel
theorem dX11_boards_15 : decode cX11_boards 15 = .ok (.iconst 0, 1) := by decide +kernel
theorem dX11_boards_16 : decode cX11_boards 16 = .ok (.istore_n 2, 1) := by decide +kernel
theorem dX11_boards_17 : decode cX11_boards 17 = .ok (.iconst 0, 1) := by decide +kernel
theorem dX11_boards_18 : decode cX11_boards 18 = .ok (.istore_n 3, 1) := by decide +kernel
theorem dX11_boards_19 : decode cX11_boards 19 = .ok (.iload_n 3, 1) := by decide +kernel
theorem dX11_boards_20 : decode cX11_boards 20 = .ok (.aload_n 0, 1) := by decide +kernel
theorem dX11_boards_21 : decode cX11_boards 21 = .ok (.getfield 13, 3) := by decide +kernel
theorem dX11_boards_24 : decode cX11_boards 24 = .ok (.iconst 3, 1) := by decide +kernel
theorem dX11_boards_25 : decode cX11_boards 25 = .ok (.iaload, 1) := by decide +kernel
theorem dX11_boards_26 : decode cX11_boards 26 = .ok (.if_icmp .ge 37, 3) := by decide +kernel
theorem dX11_boards_29 : decode cX11_boards 29 = .ok (.iload_n 2, 1) := by decide +kernel
theorem dX11_boards_30 : decode cX11_boards 30 = .ok (.aload_n 0, 1) := by decide +kernel
theorem dX11_boards_31 : decode cX11_boards 31 = .ok (.iload_n 3, 1) := by decide +kernel
theorem dX11_boards_32 : decode cX11_boards 32 = .ok (.iload_n 1, 1) := by decide +kernel
theorem dX11_boards_33 : decode cX11_boards 33 = .ok (.invokevirtual 400, 3) := by decide +kernel
theorem dX11_boards_36 : decode cX11_boards 36 = .ok (.invokestatic 352, 3) := by decide +kernel
theorem dX11_boards_39 : decode cX11_boards 39 = .ok (.aload_n 0, 1) := by decide +kernel
theorem dX11_boards_40 : decode cX11_boards 40 = .ok (.getfield 58, 3) := by decide +kernel
theorem dX11_boards_43 : decode cX11_boards 43 = .ok (.iload_n 3, 1) := by decide +kernel
theorem dX11_boards_44 : decode cX11_boards 44 = .ok (.iaload, 1) := by decide +kernel
theorem dX11_boards_45 : decode cX11_boards 45 = .ok (.if_icmp .lt 9, 3) := by decide +kernel
theorem dX11_boards_48 : decode cX11_boards 48 = .ok (.iconst 1, 1) := by decide +kernel
theorem dX11_boards_49 : decode cX11_boards 49 = .ok (.iload_n 3, 1) := by decide +kernel
theorem dX11_boards_50 : decode cX11_boards 50 = .ok (.ishl, 1) := by decide +kernel
theorem dX11_boards_51 : decode cX11_boards 51 = .ok (.goto 4, 3) := by decide +kernel
theorem dX11_boards_54 : decode cX11_boards 54 = .ok (.iconst 0, 1) := by decide +kernel
theorem dX11_boards_55 : decode cX11_boards 55 = .ok (.ior, 1) := by decide +kernel
theorem dX11_boards_56 : decode cX11_boards 56 = .ok (.istore_n 2, 1) := by decide +kernel
theorem dX11_boards_57 : decode cX11_boards 57 = .ok (.iinc 3 1, 3) := by decide +kernel
theorem dX11_boards_60 : decode cX11_boards 60 = .ok (.goto (-41), 3) := by decide +kernel
theorem dX11_boards_63 : decode cX11_boards 63 = .ok (.iload_n 2, 1) := by decide +kernel
theorem dX11_boards_64 : decode cX11_boards 64 = .ok (.ireturn, 1) := by decide +kernel
theorem dX11_trueCall_0 : decode cX11_trueCall 0 = .ok (.aload_n 0, 1) := by decide +kernel
theorem dX11_trueCall_1 : decode cX11_trueCall 1 = .ok (.iload_n 1, 1) := by decide +kernel
theorem dX11_trueCall_2 : decode cX11_trueCall 2 = .ok (.invokevirtual 355, 3) := by decide +kernel
theorem dX11_trueCall_5 : decode cX11_trueCall 5 = .ok (.istore_n 3, 1) := by decide +kernel
theorem dX11_trueCall_6 : decode cX11_trueCall 6 = .ok (.iload_n 3, 1) := by decide +kernel
theorem dX11_trueCall_7 : decode cX11_trueCall 7 = .ok (.invokestatic 358, 3) := by decide +kernel
theorem dX11_trueCall_10 : decode cX11_trueCall 10 = .ok (.ifCond .eq 7, 3) := by decide +kernel
theorem dX11_trueCall_13 : decode cX11_trueCall 13 = .ok (.iload_n 3, 1) := by decide +kernel
theorem dX11_trueCall_14 : decode cX11_trueCall 14 = .ok (.goto 4, 3) := by decide +kernel
theorem dX11_trueCall_17 : decode cX11_trueCall 17 = .ok (.iload_n 2, 1) := by decide +kernel
theorem dX11_trueCall_18 : decode cX11_trueCall 18 = .ok (.ireturn, 1) := by decide +kernel
theorem dX11_truth_0 : decode cX11_truth 0 = .ok (.aload_n 0, 1) := by decide +kernel
theorem dX11_truth_1 : decode cX11_truth 1 = .ok (.iconst 0, 1) := by decide +kernel
theorem dX11_truth_2 : decode cX11_truth 2 = .ok (.putfield 119, 3) := by decide +kernel
theorem dX11_truth_5 : decode cX11_truth 5 = .ok (.aload_n 0, 1) := by decide +kernel
theorem dX11_truth_6 : decode cX11_truth 6 = .ok (.iload_n 1, 1) := by decide +kernel
theorem dX11_truth_7 : decode cX11_truth 7 = .ok (.invokevirtual 336, 3) := by decide +kernel
theorem dX11_truth_10 : decode cX11_truth 10 = .ok (.ifCond .ne 5, 3) := by decide +kernel
theorem dX11_truth_13 : decode cX11_truth 13 = .ok (.iconst (-1), 1) := by decide +kernel
theorem dX11_truth_14 : decode cX11_truth 14 = .ok (.ireturn, 1) := by decide +kernel
theorem dX11_truth_15 : decode cX11_truth 15 = .ok (.iconst 0, 1) := by decide +kernel
theorem dX11_truth_16 : decode cX11_truth 16 = .ok (.istore_n 2, 1) := by decide +kernel
theorem dX11_truth_17 : decode cX11_truth 17 = .ok (.iconst 0, 1) := by decide +kernel
theorem dX11_truth_18 : decode cX11_truth 18 = .ok (.istore_n 3, 1) := by decide +kernel
theorem dX11_truth_19 : decode cX11_truth 19 = .ok (.iload_n 3, 1) := by decide +kernel
theorem dX11_truth_20 : decode cX11_truth 20 = .ok (.aload_n 0, 1) := by decide +kernel
theorem dX11_truth_21 : decode cX11_truth 21 = .ok (.getfield 13, 3) := by decide +kernel
theorem dX11_truth_24 : decode cX11_truth 24 = .ok (.iconst 4, 1) := by decide +kernel
theorem dX11_truth_25 : decode cX11_truth 25 = .ok (.iaload, 1) := by decide +kernel
theorem dX11_truth_26 : decode cX11_truth 26 = .ok (.if_icmp .ge 44, 3) := by decide +kernel
theorem dX11_truth_29 : decode cX11_truth 29 = .ok (.iload_n 2, 1) := by decide +kernel
theorem dX11_truth_30 : decode cX11_truth 30 = .ok (.aload_n 0, 1) := by decide +kernel
theorem dX11_truth_31 : decode cX11_truth 31 = .ok (.getfield 73, 3) := by decide +kernel
theorem dX11_truth_34 : decode cX11_truth 34 = .ok (.iload_n 3, 1) := by decide +kernel
theorem dX11_truth_35 : decode cX11_truth 35 = .ok (.iaload, 1) := by decide +kernel
theorem dX11_truth_36 : decode cX11_truth 36 = .ok (.iload_n 1, 1) := by decide +kernel
theorem dX11_truth_37 : decode cX11_truth 37 = .ok (.if_icmp .ne 24, 3) := by decide +kernel
theorem dX11_truth_40 : decode cX11_truth 40 = .ok (.aload_n 0, 1) := by decide +kernel
theorem dX11_truth_41 : decode cX11_truth 41 = .ok (.getfield 76, 3) := by decide +kernel
theorem dX11_truth_44 : decode cX11_truth 44 = .ok (.iload_n 3, 1) := by decide +kernel
theorem dX11_truth_45 : decode cX11_truth 45 = .ok (.iaload, 1) := by decide +kernel
theorem dX11_truth_46 : decode cX11_truth 46 = .ok (.aload_n 0, 1) := by decide +kernel
theorem dX11_truth_47 : decode cX11_truth 47 = .ok (.iload_n 3, 1) := by decide +kernel
theorem dX11_truth_48 : decode cX11_truth 48 = .ok (.aload_n 0, 1) := by decide +kernel
theorem dX11_truth_49 : decode cX11_truth 49 = .ok (.getfield 79, 3) := by decide +kernel
theorem dX11_truth_52 : decode cX11_truth 52 = .ok (.iload_n 3, 1) := by decide +kernel
theorem dX11_truth_53 : decode cX11_truth 53 = .ok (.iaload, 1) := by decide +kernel
theorem dX11_truth_54 : decode cX11_truth 54 = .ok (.invokevirtual 403, 3) := by decide +kernel
theorem dX11_truth_57 : decode cX11_truth 57 = .ok (.imul, 1) := by decide +kernel
theorem dX11_truth_58 : decode cX11_truth 58 = .ok (.goto 4, 3) := by decide +kernel
theorem dX11_truth_61 : decode cX11_truth 61 = .ok (.iconst 0, 1) := by decide +kernel
theorem dX11_truth_62 : decode cX11_truth 62 = .ok (.iadd, 1) := by decide +kernel
theorem dX11_truth_63 : decode cX11_truth 63 = .ok (.istore_n 2, 1) := by decide +kernel
theorem dX11_truth_64 : decode cX11_truth 64 = .ok (.iinc 3 1, 3) := by decide +kernel
theorem dX11_truth_67 : decode cX11_truth 67 = .ok (.goto (-48), 3) := by decide +kernel
theorem dX11_truth_70 : decode cX11_truth 70 = .ok (.iload_n 2, 1) := by decide +kernel
theorem dX11_truth_71 : decode cX11_truth 71 = .ok (.ireturn, 1) := by decide +kernel
theorem dX11_range_0 : decode cX11_range 0 = .ok (.aload_n 0, 1) := by decide +kernel
theorem dX11_range_1 : decode cX11_range 1 = .ok (.iconst 0, 1) := by decide +kernel
theorem dX11_range_2 : decode cX11_range 2 = .ok (.putfield 119, 3) := by decide +kernel
theorem dX11_range_5 : decode cX11_range 5 = .ok (.aload_n 0, 1) := by decide +kernel
theorem dX11_range_6 : decode cX11_range 6 = .ok (.iload_n 1, 1) := by decide +kernel
theorem dX11_range_7 : decode cX11_range 7 = .ok (.invokevirtual 336, 3) := by decide +kernel
theorem dX11_range_10 : decode cX11_range 10 = .ok (.ifCond .ne 5, 3) := by decide +kernel
theorem dX11_range_13 : decode cX11_range 13 = .ok (.iconst (-1), 1) := by decide +kernel
theorem dX11_range_14 : decode cX11_range 14 = .ok (.ireturn, 1) := by decide +kernel
theorem dX11_range_15 : decode cX11_range 15 = .ok (.iconst 0, 1) := by decide +kernel
theorem dX11_range_16 : decode cX11_range 16 = .ok (.istore_n 3, 1) := by decide +kernel
theorem dX11_range_17 : decode cX11_range 17 = .ok (.iconst 0, 1) := by decide +kernel
theorem dX11_range_18 : decode cX11_range 18 = .ok (.istore 4, 2) := by decide +kernel
theorem dX11_range_20 : decode cX11_range 20 = .ok (.iload 4, 2) := by decide +kernel
theorem dX11_range_22 : decode cX11_range 22 = .ok (.aload_n 0, 1) := by decide +kernel
theorem dX11_range_23 : decode cX11_range 23 = .ok (.getfield 13, 3) := by decide +kernel
theorem dX11_range_26 : decode cX11_range 26 = .ok (.iconst 4, 1) := by decide +kernel
theorem dX11_range_27 : decode cX11_range 27 = .ok (.iaload, 1) := by decide +kernel
theorem dX11_range_28 : decode cX11_range 28 = .ok (.if_icmp .ge 50, 3) := by decide +kernel
theorem dX11_range_31 : decode cX11_range 31 = .ok (.iload_n 3, 1) := by decide +kernel
theorem dX11_range_32 : decode cX11_range 32 = .ok (.aload_n 0, 1) := by decide +kernel
theorem dX11_range_33 : decode cX11_range 33 = .ok (.getfield 73, 3) := by decide +kernel
theorem dX11_range_36 : decode cX11_range 36 = .ok (.iload 4, 2) := by decide +kernel
theorem dX11_range_38 : decode cX11_range 38 = .ok (.iaload, 1) := by decide +kernel
theorem dX11_range_39 : decode cX11_range 39 = .ok (.iload_n 1, 1) := by decide +kernel
theorem dX11_range_40 : decode cX11_range 40 = .ok (.if_icmp .ne 29, 3) := by decide +kernel
theorem dX11_range_43 : decode cX11_range 43 = .ok (.aload_n 0, 1) := by decide +kernel
theorem dX11_range_44 : decode cX11_range 44 = .ok (.getfield 76, 3) := by decide +kernel
theorem dX11_range_47 : decode cX11_range 47 = .ok (.iload 4, 2) := by decide +kernel
theorem dX11_range_49 : decode cX11_range 49 = .ok (.iaload, 1) := by decide +kernel
theorem dX11_range_50 : decode cX11_range 50 = .ok (.aload_n 0, 1) := by decide +kernel
theorem dX11_range_51 : decode cX11_range 51 = .ok (.iload 4, 2) := by decide +kernel
theorem dX11_range_53 : decode cX11_range 53 = .ok (.iload_n 2, 1) := by decide +kernel
theorem dX11_range_54 : decode cX11_range 54 = .ok (.ifCond .eq 7, 3) := by decide +kernel
theorem dX11_range_57 : decode cX11_range 57 = .ok (.iconst 1, 1) := by decide +kernel
theorem dX11_range_58 : decode cX11_range 58 = .ok (.goto 4, 3) := by decide +kernel
theorem dX11_range_61 : decode cX11_range 61 = .ok (.iconst 0, 1) := by decide +kernel
theorem dX11_range_62 : decode cX11_range 62 = .ok (.invokevirtual 403, 3) := by decide +kernel
theorem dX11_range_65 : decode cX11_range 65 = .ok (.imul, 1) := by decide +kernel
theorem dX11_range_66 : decode cX11_range 66 = .ok (.goto 4, 3) := by decide +kernel
theorem dX11_range_69 : decode cX11_range 69 = .ok (.iconst 0, 1) := by decide +kernel
theorem dX11_range_70 : decode cX11_range 70 = .ok (.iadd, 1) := by decide +kernel
theorem dX11_range_71 : decode cX11_range 71 = .ok (.istore_n 3, 1) := by decide +kernel
theorem dX11_range_72 : decode cX11_range 72 = .ok (.iinc 4 1, 3) := by decide +kernel
theorem dX11_range_75 : decode cX11_range 75 = .ok (.goto (-55), 3) := by decide +kernel
theorem dX11_range_78 : decode cX11_range 78 = .ok (.iload_n 3, 1) := by decide +kernel
theorem dX11_range_79 : decode cX11_range 79 = .ok (.ireturn, 1) := by decide +kernel
theorem dX11_wrong_0 : decode cX11_wrong 0 = .ok (.aload_n 0, 1) := by decide +kernel
theorem dX11_wrong_1 : decode cX11_wrong 1 = .ok (.iconst 0, 1) := by decide +kernel
theorem dX11_wrong_2 : decode cX11_wrong 2 = .ok (.putfield 119, 3) := by decide +kernel
theorem dX11_wrong_5 : decode cX11_wrong 5 = .ok (.iconst 0, 1) := by decide +kernel
theorem dX11_wrong_6 : decode cX11_wrong 6 = .ok (.istore_n 1, 1) := by decide +kernel
theorem dX11_wrong_7 : decode cX11_wrong 7 = .ok (.iconst 0, 1) := by decide +kernel
theorem dX11_wrong_8 : decode cX11_wrong 8 = .ok (.istore_n 2, 1) := by decide +kernel
theorem dX11_wrong_9 : decode cX11_wrong 9 = .ok (.iload_n 2, 1) := by decide +kernel
theorem dX11_wrong_10 : decode cX11_wrong 10 = .ok (.aload_n 0, 1) := by decide +kernel
theorem dX11_wrong_11 : decode cX11_wrong 11 = .ok (.getfield 13, 3) := by decide +kernel
theorem dX11_wrong_14 : decode cX11_wrong 14 = .ok (.iconst 4, 1) := by decide +kernel
theorem dX11_wrong_15 : decode cX11_wrong 15 = .ok (.iaload, 1) := by decide +kernel
theorem dX11_wrong_16 : decode cX11_wrong 16 = .ok (.if_icmp .ge 39, 3) := by decide +kernel
theorem dX11_wrong_19 : decode cX11_wrong 19 = .ok (.iload_n 1, 1) := by decide +kernel
theorem dX11_wrong_20 : decode cX11_wrong 20 = .ok (.aload_n 0, 1) := by decide +kernel
theorem dX11_wrong_21 : decode cX11_wrong 21 = .ok (.iload_n 2, 1) := by decide +kernel
theorem dX11_wrong_22 : decode cX11_wrong 22 = .ok (.aload_n 0, 1) := by decide +kernel
theorem dX11_wrong_23 : decode cX11_wrong 23 = .ok (.getfield 79, 3) := by decide +kernel
theorem dX11_wrong_26 : decode cX11_wrong 26 = .ok (.iload_n 2, 1) := by decide +kernel
theorem dX11_wrong_27 : decode cX11_wrong 27 = .ok (.iaload, 1) := by decide +kernel
theorem dX11_wrong_28 : decode cX11_wrong 28 = .ok (.invokevirtual 403, 3) := by decide +kernel
theorem dX11_wrong_31 : decode cX11_wrong 31 = .ok (.aload_n 0, 1) := by decide +kernel
theorem dX11_wrong_32 : decode cX11_wrong 32 = .ok (.getfield 79, 3) := by decide +kernel
theorem dX11_wrong_35 : decode cX11_wrong 35 = .ok (.iload_n 2, 1) := by decide +kernel
theorem dX11_wrong_36 : decode cX11_wrong 36 = .ok (.iaload, 1) := by decide +kernel
theorem dX11_wrong_37 : decode cX11_wrong 37 = .ok (.if_icmp .eq 9, 3) := by decide +kernel
theorem dX11_wrong_40 : decode cX11_wrong 40 = .ok (.iconst 1, 1) := by decide +kernel
theorem dX11_wrong_41 : decode cX11_wrong 41 = .ok (.iload_n 2, 1) := by decide +kernel
theorem dX11_wrong_42 : decode cX11_wrong 42 = .ok (.ishl, 1) := by decide +kernel
theorem dX11_wrong_43 : decode cX11_wrong 43 = .ok (.goto 4, 3) := by decide +kernel
theorem dX11_wrong_46 : decode cX11_wrong 46 = .ok (.iconst 0, 1) := by decide +kernel
theorem dX11_wrong_47 : decode cX11_wrong 47 = .ok (.ior, 1) := by decide +kernel
theorem dX11_wrong_48 : decode cX11_wrong 48 = .ok (.istore_n 1, 1) := by decide +kernel
theorem dX11_wrong_49 : decode cX11_wrong 49 = .ok (.iinc 2 1, 3) := by decide +kernel
theorem dX11_wrong_52 : decode cX11_wrong 52 = .ok (.goto (-43), 3) := by decide +kernel
theorem dX11_wrong_55 : decode cX11_wrong 55 = .ok (.iload_n 1, 1) := by decide +kernel
theorem dX11_wrong_56 : decode cX11_wrong 56 = .ok (.ireturn, 1) := by decide +kernel
theorem dX11_left_0 : decode cX11_left 0 = .ok (.aload_n 0, 1) := by decide +kernel
theorem dX11_left_1 : decode cX11_left 1 = .ok (.iconst 0, 1) := by decide +kernel
theorem dX11_left_2 : decode cX11_left 2 = .ok (.putfield 119, 3) := by decide +kernel
theorem dX11_left_5 : decode cX11_left 5 = .ok (.aload_n 0, 1) := by decide +kernel
theorem dX11_left_6 : decode cX11_left 6 = .ok (.iload_n 1, 1) := by decide +kernel
theorem dX11_left_7 : decode cX11_left 7 = .ok (.invokevirtual 336, 3) := by decide +kernel
theorem dX11_left_10 : decode cX11_left 10 = .ok (.ifCond .ne 5, 3) := by decide +kernel
theorem dX11_left_13 : decode cX11_left 13 = .ok (.iconst (-1), 1) := by decide +kernel
theorem dX11_left_14 : decode cX11_left 14 = .ok (.ireturn, 1) := by decide +kernel
theorem dX11_left_15 : decode cX11_left 15 = .ok (.iconst 0, 1) := by decide +kernel
theorem dX11_left_16 : decode cX11_left 16 = .ok (.istore_n 2, 1) := by decide +kernel
theorem dX11_left_17 : decode cX11_left 17 = .ok (.iconst 0, 1) := by decide +kernel
theorem dX11_left_18 : decode cX11_left 18 = .ok (.istore_n 3, 1) := by decide +kernel
theorem dX11_left_19 : decode cX11_left 19 = .ok (.iload_n 3, 1) := by decide +kernel
theorem dX11_left_20 : decode cX11_left 20 = .ok (.aload_n 0, 1) := by decide +kernel
theorem dX11_left_21 : decode cX11_left 21 = .ok (.getfield 13, 3) := by decide +kernel
theorem dX11_left_24 : decode cX11_left 24 = .ok (.iconst 4, 1) := by decide +kernel
theorem dX11_left_25 : decode cX11_left 25 = .ok (.iaload, 1) := by decide +kernel
theorem dX11_left_26 : decode cX11_left 26 = .ok (.if_icmp .ge 84, 3) := by decide +kernel
theorem dX11_left_29 : decode cX11_left 29 = .ok (.aload_n 0, 1) := by decide +kernel
theorem dX11_left_30 : decode cX11_left 30 = .ok (.getfield 73, 3) := by decide +kernel
theorem dX11_left_33 : decode cX11_left 33 = .ok (.iload_n 3, 1) := by decide +kernel
theorem dX11_left_34 : decode cX11_left 34 = .ok (.iaload, 1) := by decide +kernel
theorem dX11_left_35 : decode cX11_left 35 = .ok (.iload_n 1, 1) := by decide +kernel
theorem dX11_left_36 : decode cX11_left 36 = .ok (.if_icmp .eq 6, 3) := by decide +kernel
theorem dX11_left_39 : decode cX11_left 39 = .ok (.goto 65, 3) := by decide +kernel
theorem dX11_left_42 : decode cX11_left 42 = .ok (.aload_n 0, 1) := by decide +kernel
theorem dX11_left_43 : decode cX11_left 43 = .ok (.iload_n 3, 1) := by decide +kernel
theorem dX11_left_44 : decode cX11_left 44 = .ok (.invokevirtual 388, 3) := by decide +kernel
theorem dX11_left_47 : decode cX11_left 47 = .ok (.ifCond .eq 22, 3) := by decide +kernel
theorem dX11_left_50 : decode cX11_left 50 = .ok (.aload_n 0, 1) := by decide +kernel
theorem dX11_left_51 : decode cX11_left 51 = .ok (.iload_n 3, 1) := by decide +kernel
theorem dX11_left_52 : decode cX11_left 52 = .ok (.aload_n 0, 1) := by decide +kernel
theorem dX11_left_53 : decode cX11_left 53 = .ok (.getfield 79, 3) := by decide +kernel
theorem dX11_left_56 : decode cX11_left 56 = .ok (.iload_n 3, 1) := by decide +kernel
theorem dX11_left_57 : decode cX11_left 57 = .ok (.iaload, 1) := by decide +kernel
theorem dX11_left_58 : decode cX11_left 58 = .ok (.invokevirtual 372, 3) := by decide +kernel
theorem dX11_left_61 : decode cX11_left 61 = .ok (.iconst 2, 1) := by decide +kernel
theorem dX11_left_62 : decode cX11_left 62 = .ok (.if_icmp .ne 7, 3) := by decide +kernel
theorem dX11_left_65 : decode cX11_left 65 = .ok (.iconst 1, 1) := by decide +kernel
theorem dX11_left_66 : decode cX11_left 66 = .ok (.goto 4, 3) := by decide +kernel
theorem dX11_left_69 : decode cX11_left 69 = .ok (.iconst 0, 1) := by decide +kernel
theorem dX11_left_70 : decode cX11_left 70 = .ok (.istore 4, 2) := by decide +kernel
theorem dX11_left_72 : decode cX11_left 72 = .ok (.iload_n 2, 1) := by decide +kernel
theorem dX11_left_73 : decode cX11_left 73 = .ok (.iload 4, 2) := by decide +kernel
theorem dX11_left_75 : decode cX11_left 75 = .ok (.aload_n 0, 1) := by decide +kernel
theorem dX11_left_76 : decode cX11_left 76 = .ok (.getfield 79, 3) := by decide +kernel
theorem dX11_left_79 : decode cX11_left 79 = .ok (.iload_n 3, 1) := by decide +kernel
theorem dX11_left_80 : decode cX11_left 80 = .ok (.iaload, 1) := by decide +kernel
theorem dX11_left_81 : decode cX11_left 81 = .ok (.ifCond .ne 7, 3) := by decide +kernel
theorem dX11_left_84 : decode cX11_left 84 = .ok (.iconst 1, 1) := by decide +kernel
theorem dX11_left_85 : decode cX11_left 85 = .ok (.goto 4, 3) := by decide +kernel
theorem dX11_left_88 : decode cX11_left 88 = .ok (.iconst 0, 1) := by decide +kernel
theorem dX11_left_89 : decode cX11_left 89 = .ok (.if_icmp .ne 12, 3) := by decide +kernel
theorem dX11_left_92 : decode cX11_left 92 = .ok (.aload_n 0, 1) := by decide +kernel
theorem dX11_left_93 : decode cX11_left 93 = .ok (.getfield 76, 3) := by decide +kernel
theorem dX11_left_96 : decode cX11_left 96 = .ok (.iload_n 3, 1) := by decide +kernel
theorem dX11_left_97 : decode cX11_left 97 = .ok (.iaload, 1) := by decide +kernel
theorem dX11_left_98 : decode cX11_left 98 = .ok (.goto 4, 3) := by decide +kernel
theorem dX11_left_101 : decode cX11_left 101 = .ok (.iconst 0, 1) := by decide +kernel
theorem dX11_left_102 : decode cX11_left 102 = .ok (.iadd, 1) := by decide +kernel
theorem dX11_left_103 : decode cX11_left 103 = .ok (.istore_n 2, 1) := by decide +kernel
theorem dX11_left_104 : decode cX11_left 104 = .ok (.iinc 3 1, 3) := by decide +kernel
theorem dX11_left_107 : decode cX11_left 107 = .ok (.goto (-88), 3) := by decide +kernel
theorem dX11_left_110 : decode cX11_left 110 = .ok (.iload_n 2, 1) := by decide +kernel
theorem dX11_left_111 : decode cX11_left 111 = .ok (.ireturn, 1) := by decide +kernel
theorem dX11_isEnough_0 : decode cX11_isEnough 0 = .ok (.iload_n 2, 1) := by decide +kernel
theorem dX11_isEnough_1 : decode cX11_isEnough 1 = .ok (.istore_n 3, 1) := by decide +kernel
theorem dX11_isEnough_2 : decode cX11_isEnough 2 = .ok (.iconst 0, 1) := by decide +kernel
theorem dX11_isEnough_3 : decode cX11_isEnough 3 = .ok (.istore 4, 2) := by decide +kernel
theorem dX11_isEnough_5 : decode cX11_isEnough 5 = .ok (.iconst 0, 1) := by decide +kernel
theorem dX11_isEnough_6 : decode cX11_isEnough 6 = .ok (.istore 5, 2) := by decide +kernel
theorem dX11_isEnough_8 : decode cX11_isEnough 8 = .ok (.iload 5, 2) := by decide +kernel
theorem dX11_isEnough_10 : decode cX11_isEnough 10 = .ok (.aload_n 0, 1) := by decide +kernel
theorem dX11_isEnough_11 : decode cX11_isEnough 11 = .ok (.getfield 13, 3) := by decide +kernel
theorem dX11_isEnough_14 : decode cX11_isEnough 14 = .ok (.iconst 4, 1) := by decide +kernel
theorem dX11_isEnough_15 : decode cX11_isEnough 15 = .ok (.iaload, 1) := by decide +kernel
theorem dX11_isEnough_16 : decode cX11_isEnough 16 = .ok (.if_icmp .ge 109, 3) := by decide +kernel
theorem dX11_isEnough_19 : decode cX11_isEnough 19 = .ok (.aload_n 0, 1) := by decide +kernel
theorem dX11_isEnough_20 : decode cX11_isEnough 20 = .ok (.iload 5, 2) := by decide +kernel
theorem dX11_isEnough_22 : decode cX11_isEnough 22 = .ok (.invokevirtual 388, 3) := by decide +kernel
theorem dX11_isEnough_25 : decode cX11_isEnough 25 = .ok (.ifCond .ne 94, 3) := by decide +kernel
theorem dX11_isEnough_28 : decode cX11_isEnough 28 = .ok (.aload_n 0, 1) := by decide +kernel
theorem dX11_isEnough_29 : decode cX11_isEnough 29 = .ok (.getfield 79, 3) := by decide +kernel
theorem dX11_isEnough_32 : decode cX11_isEnough 32 = .ok (.iload 5, 2) := by decide +kernel
theorem dX11_isEnough_34 : decode cX11_isEnough 34 = .ok (.iaload, 1) := by decide +kernel
theorem dX11_isEnough_35 : decode cX11_isEnough 35 = .ok (.aload_n 0, 1) := by decide +kernel
theorem dX11_isEnough_36 : decode cX11_isEnough 36 = .ok (.getfield 73, 3) := by decide +kernel
theorem dX11_isEnough_39 : decode cX11_isEnough 39 = .ok (.iload 5, 2) := by decide +kernel
theorem dX11_isEnough_41 : decode cX11_isEnough 41 = .ok (.iaload, 1) := by decide +kernel
theorem dX11_isEnough_42 : decode cX11_isEnough 42 = .ok (.iload_n 1, 1) := by decide +kernel
theorem dX11_isEnough_43 : decode cX11_isEnough 43 = .ok (.if_icmp .ne 7, 3) := by decide +kernel
theorem dX11_isEnough_46 : decode cX11_isEnough 46 = .ok (.iconst 1, 1) := by decide +kernel
theorem dX11_isEnough_47 : decode cX11_isEnough 47 = .ok (.goto 4, 3) := by decide +kernel
theorem dX11_isEnough_50 : decode cX11_isEnough 50 = .ok (.iconst 0, 1) := by decide +kernel
theorem dX11_isEnough_51 : decode cX11_isEnough 51 = .ok (.if_icmp .ne 6, 3) := by decide +kernel
theorem dX11_isEnough_54 : decode cX11_isEnough 54 = .ok (.goto 65, 3) := by decide +kernel
theorem dX11_isEnough_57 : decode cX11_isEnough 57 = .ok (.iload_n 3, 1) := by decide +kernel
theorem dX11_isEnough_58 : decode cX11_isEnough 58 = .ok (.ifCond .ne 5, 3) := by decide +kernel
theorem dX11_isEnough_61 : decode cX11_isEnough 61 = .ok (.iconst 0, 1) := by decide +kernel
theorem dX11_isEnough_62 : decode cX11_isEnough 62 = .ok (.ireturn, 1) := by decide +kernel
theorem dX11_isEnough_63 : decode cX11_isEnough 63 = .ok (.aload_n 0, 1) := by decide +kernel
theorem dX11_isEnough_64 : decode cX11_isEnough 64 = .ok (.iload 5, 2) := by decide +kernel
theorem dX11_isEnough_66 : decode cX11_isEnough 66 = .ok (.aload_n 0, 1) := by decide +kernel
theorem dX11_isEnough_67 : decode cX11_isEnough 67 = .ok (.getfield 79, 3) := by decide +kernel
theorem dX11_isEnough_70 : decode cX11_isEnough 70 = .ok (.iload 5, 2) := by decide +kernel
theorem dX11_isEnough_72 : decode cX11_isEnough 72 = .ok (.iaload, 1) := by decide +kernel
theorem dX11_isEnough_73 : decode cX11_isEnough 73 = .ok (.invokevirtual 372, 3) := by decide +kernel
theorem dX11_isEnough_76 : decode cX11_isEnough 76 = .ok (.iconst 2, 1) := by decide +kernel
theorem dX11_isEnough_77 : decode cX11_isEnough 77 = .ok (.if_icmp .eq 9, 3) := by decide +kernel
theorem dX11_isEnough_80 : decode cX11_isEnough 80 = .ok (.iinc 3 (-1), 3) := by decide +kernel
theorem dX11_isEnough_83 : decode cX11_isEnough 83 = .ok (.goto 36, 3) := by decide +kernel
theorem dX11_isEnough_86 : decode cX11_isEnough 86 = .ok (.iinc 4 1, 3) := by decide +kernel
theorem dX11_isEnough_89 : decode cX11_isEnough 89 = .ok (.aload_n 0, 1) := by decide +kernel
theorem dX11_isEnough_90 : decode cX11_isEnough 90 = .ok (.getfield 17, 3) := by decide +kernel
theorem dX11_isEnough_93 : decode cX11_isEnough 93 = .ok (.iconst 1, 1) := by decide +kernel
theorem dX11_isEnough_94 : decode cX11_isEnough 94 = .ok (.iaload, 1) := by decide +kernel
theorem dX11_isEnough_95 : decode cX11_isEnough 95 = .ok (.ifCond .le 24, 3) := by decide +kernel
theorem dX11_isEnough_98 : decode cX11_isEnough 98 = .ok (.iload 4, 2) := by decide +kernel
theorem dX11_isEnough_100 : decode cX11_isEnough 100 = .ok (.aload_n 0, 1) := by decide +kernel
theorem dX11_isEnough_101 : decode cX11_isEnough 101 = .ok (.getfield 17, 3) := by decide +kernel
theorem dX11_isEnough_104 : decode cX11_isEnough 104 = .ok (.iconst 1, 1) := by decide +kernel
theorem dX11_isEnough_105 : decode cX11_isEnough 105 = .ok (.iaload, 1) := by decide +kernel
theorem dX11_isEnough_106 : decode cX11_isEnough 106 = .ok (.irem, 1) := by decide +kernel
theorem dX11_isEnough_107 : decode cX11_isEnough 107 = .ok (.ifCond .ne 12, 3) := by decide +kernel
theorem dX11_isEnough_110 : decode cX11_isEnough 110 = .ok (.iload_n 3, 1) := by decide +kernel
theorem dX11_isEnough_111 : decode cX11_isEnough 111 = .ok (.bipush 9, 2) := by decide +kernel
theorem dX11_isEnough_113 : decode cX11_isEnough 113 = .ok (.if_icmp .ge 6, 3) := by decide +kernel
theorem dX11_isEnough_116 : decode cX11_isEnough 116 = .ok (.iinc 3 1, 3) := by decide +kernel
theorem dX11_isEnough_119 : decode cX11_isEnough 119 = .ok (.iinc 5 1, 3) := by decide +kernel
theorem dX11_isEnough_122 : decode cX11_isEnough 122 = .ok (.goto (-114), 3) := by decide +kernel
theorem dX11_isEnough_125 : decode cX11_isEnough 125 = .ok (.iconst 1, 1) := by decide +kernel
theorem dX11_isEnough_126 : decode cX11_isEnough 126 = .ok (.ireturn, 1) := by decide +kernel
theorem dX11_need_0 : decode cX11_need 0 = .ok (.aload_n 0, 1) := by decide +kernel
theorem dX11_need_1 : decode cX11_need 1 = .ok (.iconst 0, 1) := by decide +kernel
theorem dX11_need_2 : decode cX11_need 2 = .ok (.putfield 119, 3) := by decide +kernel
theorem dX11_need_5 : decode cX11_need 5 = .ok (.aload_n 0, 1) := by decide +kernel
theorem dX11_need_6 : decode cX11_need 6 = .ok (.iload_n 1, 1) := by decide +kernel
theorem dX11_need_7 : decode cX11_need 7 = .ok (.invokevirtual 336, 3) := by decide +kernel
theorem dX11_need_10 : decode cX11_need 10 = .ok (.ifCond .ne 5, 3) := by decide +kernel
theorem dX11_need_13 : decode cX11_need 13 = .ok (.iconst (-1), 1) := by decide +kernel
theorem dX11_need_14 : decode cX11_need 14 = .ok (.ireturn, 1) := by decide +kernel
theorem dX11_need_15 : decode cX11_need 15 = .ok (.iconst 0, 1) := by decide +kernel
theorem dX11_need_16 : decode cX11_need 16 = .ok (.istore_n 2, 1) := by decide +kernel
theorem dX11_need_17 : decode cX11_need 17 = .ok (.iload_n 2, 1) := by decide +kernel
theorem dX11_need_18 : decode cX11_need 18 = .ok (.bipush 9, 2) := by decide +kernel
theorem dX11_need_20 : decode cX11_need 20 = .ok (.if_icmp .ge 20, 3) := by decide +kernel
theorem dX11_need_23 : decode cX11_need 23 = .ok (.aload_n 0, 1) := by decide +kernel
theorem dX11_need_24 : decode cX11_need 24 = .ok (.iload_n 1, 1) := by decide +kernel
theorem dX11_need_25 : decode cX11_need 25 = .ok (.iload_n 2, 1) := by decide +kernel
theorem dX11_need_26 : decode cX11_need 26 = .ok (.invokevirtual 406, 3) := by decide +kernel
theorem dX11_need_29 : decode cX11_need 29 = .ok (.ifCond .eq 5, 3) := by decide +kernel
theorem dX11_need_32 : decode cX11_need 32 = .ok (.iload_n 2, 1) := by decide +kernel
theorem dX11_need_33 : decode cX11_need 33 = .ok (.ireturn, 1) := by decide +kernel
theorem dX11_need_34 : decode cX11_need 34 = .ok (.iinc 2 1, 3) := by decide +kernel
theorem dX11_need_37 : decode cX11_need 37 = .ok (.goto (-20), 3) := by decide +kernel
theorem dX11_need_40 : decode cX11_need 40 = .ok (.bipush 9, 2) := by decide +kernel
theorem dX11_need_42 : decode cX11_need 42 = .ok (.ireturn, 1) := by decide +kernel
theorem dX11_timeOf_0 : decode cX11_timeOf 0 = .ok (.iconst 0, 1) := by decide +kernel
theorem dX11_timeOf_1 : decode cX11_timeOf 1 = .ok (.istore_n 2, 1) := by decide +kernel
theorem dX11_timeOf_2 : decode cX11_timeOf 2 = .ok (.iconst 0, 1) := by decide +kernel
theorem dX11_timeOf_3 : decode cX11_timeOf 3 = .ok (.istore_n 3, 1) := by decide +kernel
theorem dX11_timeOf_4 : decode cX11_timeOf 4 = .ok (.iload_n 3, 1) := by decide +kernel
theorem dX11_timeOf_5 : decode cX11_timeOf 5 = .ok (.aload_n 0, 1) := by decide +kernel
theorem dX11_timeOf_6 : decode cX11_timeOf 6 = .ok (.getfield 13, 3) := by decide +kernel
theorem dX11_timeOf_9 : decode cX11_timeOf 9 = .ok (.iconst 4, 1) := by decide +kernel
theorem dX11_timeOf_10 : decode cX11_timeOf 10 = .ok (.iaload, 1) := by decide +kernel
theorem dX11_timeOf_11 : decode cX11_timeOf 11 = .ok (.if_icmp .ge 35, 3) := by decide +kernel
theorem dX11_timeOf_14 : decode cX11_timeOf 14 = .ok (.iload_n 2, 1) := by decide +kernel
theorem dX11_timeOf_15 : decode cX11_timeOf 15 = .ok (.aload_n 0, 1) := by decide +kernel
theorem dX11_timeOf_16 : decode cX11_timeOf 16 = .ok (.getfield 67, 3) := by decide +kernel
theorem dX11_timeOf_19 : decode cX11_timeOf 19 = .ok (.iload_n 3, 1) := by decide +kernel
theorem dX11_timeOf_20 : decode cX11_timeOf 20 = .ok (.iaload, 1) := by decide +kernel
theorem dX11_timeOf_21 : decode cX11_timeOf 21 = .ok (.iload_n 1, 1) := by decide +kernel
theorem dX11_timeOf_22 : decode cX11_timeOf 22 = .ok (.if_icmp .ne 15, 3) := by decide +kernel
theorem dX11_timeOf_25 : decode cX11_timeOf 25 = .ok (.aload_n 0, 1) := by decide +kernel
theorem dX11_timeOf_26 : decode cX11_timeOf 26 = .ok (.getfield 97, 3) := by decide +kernel
theorem dX11_timeOf_29 : decode cX11_timeOf 29 = .ok (.bipush 41, 2) := by decide +kernel
theorem dX11_timeOf_31 : decode cX11_timeOf 31 = .ok (.iload_n 3, 1) := by decide +kernel
theorem dX11_timeOf_32 : decode cX11_timeOf 32 = .ok (.iadd, 1) := by decide +kernel
theorem dX11_timeOf_33 : decode cX11_timeOf 33 = .ok (.iaload, 1) := by decide +kernel
theorem dX11_timeOf_34 : decode cX11_timeOf 34 = .ok (.goto 4, 3) := by decide +kernel
theorem dX11_timeOf_37 : decode cX11_timeOf 37 = .ok (.iconst 0, 1) := by decide +kernel
theorem dX11_timeOf_38 : decode cX11_timeOf 38 = .ok (.iadd, 1) := by decide +kernel
theorem dX11_timeOf_39 : decode cX11_timeOf 39 = .ok (.istore_n 2, 1) := by decide +kernel
theorem dX11_timeOf_40 : decode cX11_timeOf 40 = .ok (.iinc 3 1, 3) := by decide +kernel
theorem dX11_timeOf_43 : decode cX11_timeOf 43 = .ok (.goto (-39), 3) := by decide +kernel
theorem dX11_timeOf_46 : decode cX11_timeOf 46 = .ok (.iload_n 2, 1) := by decide +kernel
theorem dX11_timeOf_47 : decode cX11_timeOf 47 = .ok (.ireturn, 1) := by decide +kernel
theorem dX11_seconds_0 : decode cX11_seconds 0 = .ok (.aload_n 0, 1) := by decide +kernel
theorem dX11_seconds_1 : decode cX11_seconds 1 = .ok (.iconst 0, 1) := by decide +kernel
theorem dX11_seconds_2 : decode cX11_seconds 2 = .ok (.putfield 119, 3) := by decide +kernel
theorem dX11_seconds_5 : decode cX11_seconds 5 = .ok (.iload_n 1, 1) := by decide +kernel
theorem dX11_seconds_6 : decode cX11_seconds 6 = .ok (.i2l, 1) := by decide +kernel
theorem dX11_seconds_7 : decode cX11_seconds 7 = .ok (.lconst 0, 1) := by decide +kernel
theorem dX11_seconds_8 : decode cX11_seconds 8 = .ok (.ldc2_w 409, 3) := by decide +kernel
theorem dX11_seconds_11 : decode cX11_seconds 11 = .ok (.invokestatic 156, 3) := by decide +kernel
theorem dX11_seconds_14 : decode cX11_seconds 14 = .ok (.ifCond .eq 11, 3) := by decide +kernel
theorem dX11_seconds_17 : decode cX11_seconds 17 = .ok (.aload_n 0, 1) := by decide +kernel
theorem dX11_seconds_18 : decode cX11_seconds 18 = .ok (.iload_n 1, 1) := by decide +kernel
theorem dX11_seconds_19 : decode cX11_seconds 19 = .ok (.invokevirtual 411, 3) := by decide +kernel
theorem dX11_seconds_22 : decode cX11_seconds 22 = .ok (.goto 4, 3) := by decide +kernel
theorem dX11_seconds_25 : decode cX11_seconds 25 = .ok (.iconst (-1), 1) := by decide +kernel
theorem dX11_seconds_26 : decode cX11_seconds 26 = .ok (.ireturn, 1) := by decide +kernel
theorem dX11_extra_0 : decode cX11_extra 0 = .ok (.aload_n 0, 1) := by decide +kernel
theorem dX11_extra_1 : decode cX11_extra 1 = .ok (.iconst 0, 1) := by decide +kernel
theorem dX11_extra_2 : decode cX11_extra 2 = .ok (.putfield 119, 3) := by decide +kernel
theorem dX11_extra_5 : decode cX11_extra 5 = .ok (.iconst 0, 1) := by decide +kernel
theorem dX11_extra_6 : decode cX11_extra 6 = .ok (.istore_n 1, 1) := by decide +kernel
theorem dX11_extra_7 : decode cX11_extra 7 = .ok (.iconst 0, 1) := by decide +kernel
theorem dX11_extra_8 : decode cX11_extra 8 = .ok (.istore_n 2, 1) := by decide +kernel
theorem dX11_extra_9 : decode cX11_extra 9 = .ok (.iload_n 2, 1) := by decide +kernel
theorem dX11_extra_10 : decode cX11_extra 10 = .ok (.aload_n 0, 1) := by decide +kernel
theorem dX11_extra_11 : decode cX11_extra 11 = .ok (.getfield 13, 3) := by decide +kernel
theorem dX11_extra_14 : decode cX11_extra 14 = .ok (.iconst 4, 1) := by decide +kernel
theorem dX11_extra_15 : decode cX11_extra 15 = .ok (.iaload, 1) := by decide +kernel
theorem dX11_extra_16 : decode cX11_extra 16 = .ok (.if_icmp .ge 53, 3) := by decide +kernel
theorem dX11_extra_19 : decode cX11_extra 19 = .ok (.iload_n 1, 1) := by decide +kernel
theorem dX11_extra_20 : decode cX11_extra 20 = .ok (.iload_n 2, 1) := by decide +kernel
theorem dX11_extra_21 : decode cX11_extra 21 = .ok (.ifCond .eq 20, 3) := by decide +kernel
theorem dX11_extra_24 : decode cX11_extra 24 = .ok (.aload_n 0, 1) := by decide +kernel
theorem dX11_extra_25 : decode cX11_extra 25 = .ok (.getfield 67, 3) := by decide +kernel
theorem dX11_extra_28 : decode cX11_extra 28 = .ok (.iload_n 2, 1) := by decide +kernel
theorem dX11_extra_29 : decode cX11_extra 29 = .ok (.iaload, 1) := by decide +kernel
theorem dX11_extra_30 : decode cX11_extra 30 = .ok (.aload_n 0, 1) := by decide +kernel
theorem dX11_extra_31 : decode cX11_extra 31 = .ok (.getfield 67, 3) := by decide +kernel
theorem dX11_extra_34 : decode cX11_extra 34 = .ok (.iload_n 2, 1) := by decide +kernel
theorem dX11_extra_35 : decode cX11_extra 35 = .ok (.iconst 1, 1) := by decide +kernel
theorem dX11_extra_36 : decode cX11_extra 36 = .ok (.isub, 1) := by decide +kernel
theorem dX11_extra_37 : decode cX11_extra 37 = .ok (.iaload, 1) := by decide +kernel
theorem dX11_extra_38 : decode cX11_extra 38 = .ok (.if_icmp .eq 22, 3) := by decide +kernel
theorem dX11_extra_41 : decode cX11_extra 41 = .ok (.aload_n 0, 1) := by decide +kernel
theorem dX11_extra_42 : decode cX11_extra 42 = .ok (.aload_n 0, 1) := by decide +kernel
theorem dX11_extra_43 : decode cX11_extra 43 = .ok (.getfield 67, 3) := by decide +kernel
theorem dX11_extra_46 : decode cX11_extra 46 = .ok (.iload_n 2, 1) := by decide +kernel
theorem dX11_extra_47 : decode cX11_extra 47 = .ok (.iaload, 1) := by decide +kernel
theorem dX11_extra_48 : decode cX11_extra 48 = .ok (.invokevirtual 411, 3) := by decide +kernel
theorem dX11_extra_51 : decode cX11_extra 51 = .ok (.bipush 59, 2) := by decide +kernel
theorem dX11_extra_53 : decode cX11_extra 53 = .ok (.iadd, 1) := by decide +kernel
theorem dX11_extra_54 : decode cX11_extra 54 = .ok (.bipush 60, 2) := by decide +kernel
theorem dX11_extra_56 : decode cX11_extra 56 = .ok (.idiv, 1) := by decide +kernel
theorem dX11_extra_57 : decode cX11_extra 57 = .ok (.goto 4, 3) := by decide +kernel
theorem dX11_extra_60 : decode cX11_extra 60 = .ok (.iconst 0, 1) := by decide +kernel
theorem dX11_extra_61 : decode cX11_extra 61 = .ok (.iadd, 1) := by decide +kernel
theorem dX11_extra_62 : decode cX11_extra 62 = .ok (.istore_n 1, 1) := by decide +kernel
theorem dX11_extra_63 : decode cX11_extra 63 = .ok (.iinc 2 1, 3) := by decide +kernel
theorem dX11_extra_66 : decode cX11_extra 66 = .ok (.goto (-57), 3) := by decide +kernel
theorem dX11_extra_69 : decode cX11_extra 69 = .ok (.iload_n 1, 1) := by decide +kernel
theorem dX11_extra_70 : decode cX11_extra 70 = .ok (.ireturn, 1) := by decide +kernel
theorem dX11_log_0 : decode cX11_log 0 = .ok (.aload_n 0, 1) := by decide +kernel
theorem dX11_log_1 : decode cX11_log 1 = .ok (.iload_n 1, 1) := by decide +kernel
theorem dX11_log_2 : decode cX11_log 2 = .ok (.i2l, 1) := by decide +kernel
theorem dX11_log_3 : decode cX11_log 3 = .ok (.lconst 0, 1) := by decide +kernel
theorem dX11_log_4 : decode cX11_log 4 = .ok (.aload_n 0, 1) := by decide +kernel
theorem dX11_log_5 : decode cX11_log 5 = .ok (.getfield 97, 3) := by decide +kernel
theorem dX11_log_8 : decode cX11_log 8 = .ok (.bipush 49, 2) := by decide +kernel
theorem dX11_log_10 : decode cX11_log 10 = .ok (.iaload, 1) := by decide +kernel
theorem dX11_log_11 : decode cX11_log 11 = .ok (.iconst 1, 1) := by decide +kernel
theorem dX11_log_12 : decode cX11_log 12 = .ok (.isub, 1) := by decide +kernel
theorem dX11_log_13 : decode cX11_log 13 = .ok (.i2l, 1) := by decide +kernel
theorem dX11_log_14 : decode cX11_log 14 = .ok (.invokestatic 156, 3) := by decide +kernel
theorem dX11_log_17 : decode cX11_log 17 = .ok (.ifCond .eq 19, 3) := by decide +kernel
theorem dX11_log_20 : decode cX11_log 20 = .ok (.iload_n 2, 1) := by decide +kernel
theorem dX11_log_21 : decode cX11_log 21 = .ok (.i2l, 1) := by decide +kernel
theorem dX11_log_22 : decode cX11_log 22 = .ok (.lconst 0, 1) := by decide +kernel
theorem dX11_log_23 : decode cX11_log 23 = .ok (.ldc2_w 334, 3) := by decide +kernel
theorem dX11_log_26 : decode cX11_log 26 = .ok (.invokestatic 156, 3) := by decide +kernel
theorem dX11_log_29 : decode cX11_log 29 = .ok (.ifCond .eq 7, 3) := by decide +kernel
theorem dX11_log_32 : decode cX11_log 32 = .ok (.iconst 0, 1) := by decide +kernel
theorem dX11_log_33 : decode cX11_log 33 = .ok (.goto 4, 3) := by decide +kernel
theorem dX11_log_36 : decode cX11_log 36 = .ok (.iconst 1, 1) := by decide +kernel
theorem dX11_log_37 : decode cX11_log 37 = .ok (.putfield 119, 3) := by decide +kernel
theorem dX11_log_40 : decode cX11_log 40 = .ok (.aload_n 0, 1) := by decide +kernel
theorem dX11_log_41 : decode cX11_log 41 = .ok (.getfield 119, 3) := by decide +kernel
theorem dX11_log_44 : decode cX11_log 44 = .ok (.iconst 1, 1) := by decide +kernel
theorem dX11_log_45 : decode cX11_log 45 = .ok (.if_icmp .ne 7, 3) := by decide +kernel
theorem dX11_log_48 : decode cX11_log 48 = .ok (.iconst 0, 1) := by decide +kernel
theorem dX11_log_49 : decode cX11_log 49 = .ok (.goto 16, 3) := by decide +kernel
theorem dX11_log_52 : decode cX11_log 52 = .ok (.aload_n 0, 1) := by decide +kernel
theorem dX11_log_53 : decode cX11_log 53 = .ok (.getfield 97, 3) := by decide +kernel
theorem dX11_log_56 : decode cX11_log 56 = .ok (.bipush 50, 2) := by decide +kernel
theorem dX11_log_58 : decode cX11_log 58 = .ok (.iconst 4, 1) := by decide +kernel
theorem dX11_log_59 : decode cX11_log 59 = .ok (.iload_n 1, 1) := by decide +kernel
theorem dX11_log_60 : decode cX11_log 60 = .ok (.imul, 1) := by decide +kernel
theorem dX11_log_61 : decode cX11_log 61 = .ok (.iadd, 1) := by decide +kernel
theorem dX11_log_62 : decode cX11_log 62 = .ok (.iload_n 2, 1) := by decide +kernel
theorem dX11_log_63 : decode cX11_log 63 = .ok (.iadd, 1) := by decide +kernel
theorem dX11_log_64 : decode cX11_log 64 = .ok (.iaload, 1) := by decide +kernel
theorem dX11_log_65 : decode cX11_log 65 = .ok (.ireturn, 1) := by decide +kernel
theorem dX11_sheet_0 : decode cX11_sheet 0 = .ok (.aload_n 0, 1) := by decide +kernel
theorem dX11_sheet_1 : decode cX11_sheet 1 = .ok (.iconst 0, 1) := by decide +kernel
theorem dX11_sheet_2 : decode cX11_sheet 2 = .ok (.putfield 119, 3) := by decide +kernel
theorem dX11_sheet_5 : decode cX11_sheet 5 = .ok (.iload_n 1, 1) := by decide +kernel
theorem dX11_sheet_6 : decode cX11_sheet 6 = .ok (.i2l, 1) := by decide +kernel
theorem dX11_sheet_7 : decode cX11_sheet 7 = .ok (.lconst 0, 1) := by decide +kernel
theorem dX11_sheet_8 : decode cX11_sheet 8 = .ok (.ldc2_w 367, 3) := by decide +kernel
theorem dX11_sheet_11 : decode cX11_sheet 11 = .ok (.invokestatic 156, 3) := by decide +kernel
theorem dX11_sheet_14 : decode cX11_sheet 14 = .ok (.ifCond .eq 18, 3) := by decide +kernel
theorem dX11_sheet_17 : decode cX11_sheet 17 = .ok (.iload_n 2, 1) := by decide +kernel
theorem dX11_sheet_18 : decode cX11_sheet 18 = .ok (.ifCond .lt 14, 3) := by decide +kernel
theorem dX11_sheet_21 : decode cX11_sheet 21 = .ok (.iload_n 3, 1) := by decide +kernel
theorem dX11_sheet_22 : decode cX11_sheet 22 = .ok (.aload_n 0, 1) := by decide +kernel
theorem dX11_sheet_23 : decode cX11_sheet 23 = .ok (.getfield 97, 3) := by decide +kernel
theorem dX11_sheet_26 : decode cX11_sheet 26 = .ok (.bipush 49, 2) := by decide +kernel
theorem dX11_sheet_28 : decode cX11_sheet 28 = .ok (.iaload, 1) := by decide +kernel
theorem dX11_sheet_29 : decode cX11_sheet 29 = .ok (.if_icmp .le 5, 3) := by decide +kernel
theorem dX11_sheet_32 : decode cX11_sheet 32 = .ok (.iconst (-1), 1) := by decide +kernel
theorem dX11_sheet_33 : decode cX11_sheet 33 = .ok (.ireturn, 1) := by decide +kernel
theorem dX11_sheet_34 : decode cX11_sheet 34 = .ok (.iload_n 3, 1) := by decide +kernel
theorem dX11_sheet_35 : decode cX11_sheet 35 = .ok (.iload_n 2, 1) := by decide +kernel
theorem dX11_sheet_36 : decode cX11_sheet 36 = .ok (.if_icmp .ge 6, 3) := by decide +kernel
theorem dX11_sheet_39 : decode cX11_sheet 39 = .ok (.bipush (-2), 2) := by decide +kernel
theorem dX11_sheet_41 : decode cX11_sheet 41 = .ok (.ireturn, 1) := by decide +kernel
theorem dX11_sheet_42 : decode cX11_sheet 42 = .ok (.aload_n 0, 1) := by decide +kernel
theorem dX11_sheet_43 : decode cX11_sheet 43 = .ok (.iload_n 3, 1) := by decide +kernel
theorem dX11_sheet_44 : decode cX11_sheet 44 = .ok (.iload_n 2, 1) := by decide +kernel
theorem dX11_sheet_45 : decode cX11_sheet 45 = .ok (.isub, 1) := by decide +kernel
theorem dX11_sheet_46 : decode cX11_sheet 46 = .ok (.putfield 414, 3) := by decide +kernel
theorem dX11_sheet_49 : decode cX11_sheet 49 = .ok (.iconst 0, 1) := by decide +kernel
theorem dX11_sheet_50 : decode cX11_sheet 50 = .ok (.istore 4, 2) := by decide +kernel
theorem dX11_sheet_52 : decode cX11_sheet 52 = .ok (.iload 4, 2) := by decide +kernel
theorem dX11_sheet_54 : decode cX11_sheet 54 = .ok (.aload_n 0, 1) := by decide +kernel
theorem dX11_sheet_55 : decode cX11_sheet 55 = .ok (.getfield 414, 3) := by decide +kernel
theorem dX11_sheet_58 : decode cX11_sheet 58 = .ok (.if_icmp .ge 57, 3) := by decide +kernel
theorem dX11_sheet_61 : decode cX11_sheet 61 = .ok (.aload_n 0, 1) := by decide +kernel
theorem dX11_sheet_62 : decode cX11_sheet 62 = .ok (.getfield 97, 3) := by decide +kernel
theorem dX11_sheet_65 : decode cX11_sheet 65 = .ok (.bipush 50, 2) := by decide +kernel
theorem dX11_sheet_67 : decode cX11_sheet 67 = .ok (.iconst 4, 1) := by decide +kernel
theorem dX11_sheet_68 : decode cX11_sheet 68 = .ok (.iload_n 2, 1) := by decide +kernel
theorem dX11_sheet_69 : decode cX11_sheet 69 = .ok (.iload 4, 2) := by decide +kernel
theorem dX11_sheet_71 : decode cX11_sheet 71 = .ok (.iadd, 1) := by decide +kernel
theorem dX11_sheet_72 : decode cX11_sheet 72 = .ok (.imul, 1) := by decide +kernel
theorem dX11_sheet_73 : decode cX11_sheet 73 = .ok (.iadd, 1) := by decide +kernel
theorem dX11_sheet_74 : decode cX11_sheet 74 = .ok (.iconst 3, 1) := by decide +kernel
theorem dX11_sheet_75 : decode cX11_sheet 75 = .ok (.iadd, 1) := by decide +kernel
theorem dX11_sheet_76 : decode cX11_sheet 76 = .ok (.iaload, 1) := by decide +kernel
theorem dX11_sheet_77 : decode cX11_sheet 77 = .ok (.istore 5, 2) := by decide +kernel
theorem dX11_sheet_79 : decode cX11_sheet 79 = .ok (.aload_n 0, 1) := by decide +kernel
theorem dX11_sheet_80 : decode cX11_sheet 80 = .ok (.getfield 112, 3) := by decide +kernel
theorem dX11_sheet_83 : decode cX11_sheet 83 = .ok (.iload 4, 2) := by decide +kernel
theorem dX11_sheet_85 : decode cX11_sheet 85 = .ok (.iload_n 1, 1) := by decide +kernel
theorem dX11_sheet_86 : decode cX11_sheet 86 = .ok (.ifCond .ne 9, 3) := by decide +kernel
theorem dX11_sheet_89 : decode cX11_sheet 89 = .ok (.iload 5, 2) := by decide +kernel
theorem dX11_sheet_91 : decode cX11_sheet 91 = .ok (.i2b, 1) := by decide +kernel
theorem dX11_sheet_92 : decode cX11_sheet 92 = .ok (.goto 16, 3) := by decide +kernel
theorem dX11_sheet_95 : decode cX11_sheet 95 = .ok (.iload_n 1, 1) := by decide +kernel
theorem dX11_sheet_96 : decode cX11_sheet 96 = .ok (.iconst 1, 1) := by decide +kernel
theorem dX11_sheet_97 : decode cX11_sheet 97 = .ok (.if_icmp .ne 9, 3) := by decide +kernel
theorem dX11_sheet_100 : decode cX11_sheet 100 = .ok (.iload 5, 2) := by decide +kernel
theorem dX11_sheet_102 : decode cX11_sheet 102 = .ok (.i2s, 1) := by decide +kernel
theorem dX11_sheet_103 : decode cX11_sheet 103 = .ok (.goto 5, 3) := by decide +kernel
theorem dX11_sheet_106 : decode cX11_sheet 106 = .ok (.iload 5, 2) := by decide +kernel
theorem dX11_sheet_108 : decode cX11_sheet 108 = .ok (.iastore, 1) := by decide +kernel
theorem dX11_sheet_109 : decode cX11_sheet 109 = .ok (.iinc 4 1, 3) := by decide +kernel
theorem dX11_sheet_112 : decode cX11_sheet 112 = .ok (.goto (-60), 3) := by decide +kernel
theorem dX11_sheet_115 : decode cX11_sheet 115 = .ok (.aload_n 0, 1) := by decide +kernel
theorem dX11_sheet_116 : decode cX11_sheet 116 = .ok (.getfield 414, 3) := by decide +kernel
theorem dX11_sheet_119 : decode cX11_sheet 119 = .ok (.ireturn, 1) := by decide +kernel
theorem dX11_row_0 : decode cX11_row 0 = .ok (.aload_n 0, 1) := by decide +kernel
theorem dX11_row_1 : decode cX11_row 1 = .ok (.iload_n 1, 1) := by decide +kernel
theorem dX11_row_2 : decode cX11_row 2 = .ok (.i2l, 1) := by decide +kernel
theorem dX11_row_3 : decode cX11_row 3 = .ok (.lconst 0, 1) := by decide +kernel
theorem dX11_row_4 : decode cX11_row 4 = .ok (.aload_n 0, 1) := by decide +kernel
theorem dX11_row_5 : decode cX11_row 5 = .ok (.getfield 414, 3) := by decide +kernel
theorem dX11_row_8 : decode cX11_row 8 = .ok (.iconst 1, 1) := by decide +kernel
theorem dX11_row_9 : decode cX11_row 9 = .ok (.isub, 1) := by decide +kernel
theorem dX11_row_10 : decode cX11_row 10 = .ok (.i2l, 1) := by decide +kernel
theorem dX11_row_11 : decode cX11_row 11 = .ok (.invokestatic 156, 3) := by decide +kernel
theorem dX11_row_14 : decode cX11_row 14 = .ok (.ifCond .eq 7, 3) := by decide +kernel
theorem dX11_row_17 : decode cX11_row 17 = .ok (.iconst 0, 1) := by decide +kernel
theorem dX11_row_18 : decode cX11_row 18 = .ok (.goto 4, 3) := by decide +kernel
theorem dX11_row_21 : decode cX11_row 21 = .ok (.iconst 1, 1) := by decide +kernel
theorem dX11_row_22 : decode cX11_row 22 = .ok (.putfield 119, 3) := by decide +kernel
theorem dX11_row_25 : decode cX11_row 25 = .ok (.aload_n 0, 1) := by decide +kernel
theorem dX11_row_26 : decode cX11_row 26 = .ok (.getfield 119, 3) := by decide +kernel
theorem dX11_row_29 : decode cX11_row 29 = .ok (.iconst 1, 1) := by decide +kernel
theorem dX11_row_30 : decode cX11_row 30 = .ok (.if_icmp .ne 7, 3) := by decide +kernel
theorem dX11_row_33 : decode cX11_row 33 = .ok (.iconst 0, 1) := by decide +kernel
theorem dX11_row_34 : decode cX11_row 34 = .ok (.goto 9, 3) := by decide +kernel
theorem dX11_row_37 : decode cX11_row 37 = .ok (.aload_n 0, 1) := by decide +kernel
theorem dX11_row_38 : decode cX11_row 38 = .ok (.getfield 112, 3) := by decide +kernel
theorem dX11_row_41 : decode cX11_row 41 = .ok (.iload_n 1, 1) := by decide +kernel
theorem dX11_row_42 : decode cX11_row 42 = .ok (.iaload, 1) := by decide +kernel
theorem dX11_row_43 : decode cX11_row 43 = .ok (.ireturn, 1) := by decide +kernel
theorem dX11_undo_0 : decode cX11_undo 0 = .ok (.aload_n 0, 1) := by decide +kernel
theorem dX11_undo_1 : decode cX11_undo 1 = .ok (.iconst 0, 1) := by decide +kernel
theorem dX11_undo_2 : decode cX11_undo 2 = .ok (.putfield 119, 3) := by decide +kernel
theorem dX11_undo_5 : decode cX11_undo 5 = .ok (.aload_n 0, 1) := by decide +kernel
theorem dX11_undo_6 : decode cX11_undo 6 = .ok (.getfield 304, 3) := by decide +kernel
theorem dX11_undo_9 : decode cX11_undo 9 = .ok (.ifCond .ne 5, 3) := by decide +kernel
theorem dX11_undo_12 : decode cX11_undo 12 = .ok (.iconst (-1), 1) := by decide +kernel
theorem dX11_undo_13 : decode cX11_undo 13 = .ok (.ireturn, 1) := by decide +kernel
theorem dX11_undo_14 : decode cX11_undo 14 = .ok (.aload_n 0, 1) := by decide +kernel
theorem dX11_undo_15 : decode cX11_undo 15 = .ok (.dup, 1) := by decide +kernel
theorem dX11_undo_16 : decode cX11_undo 16 = .ok (.getfield 304, 3) := by decide +kernel
theorem dX11_undo_19 : decode cX11_undo 19 = .ok (.iconst 1, 1) := by decide +kernel
theorem dX11_undo_20 : decode cX11_undo 20 = .ok (.isub, 1) := by decide +kernel
theorem dX11_undo_21 : decode cX11_undo 21 = .ok (.putfield 304, 3) := by decide +kernel
theorem dX11_undo_24 : decode cX11_undo 24 = .ok (.iconst 0, 1) := by decide +kernel
theorem dX11_undo_25 : decode cX11_undo 25 = .ok (.istore_n 1, 1) := by decide +kernel
theorem dX11_undo_26 : decode cX11_undo 26 = .ok (.iload_n 1, 1) := by decide +kernel
theorem dX11_undo_27 : decode cX11_undo 27 = .ok (.bipush 114, 2) := by decide +kernel
theorem dX11_undo_29 : decode cX11_undo 29 = .ok (.if_icmp .ge 29, 3) := by decide +kernel
theorem dX11_undo_32 : decode cX11_undo 32 = .ok (.aload_n 0, 1) := by decide +kernel
theorem dX11_undo_33 : decode cX11_undo 33 = .ok (.getfield 97, 3) := by decide +kernel
theorem dX11_undo_36 : decode cX11_undo 36 = .ok (.iload_n 1, 1) := by decide +kernel
theorem dX11_undo_37 : decode cX11_undo 37 = .ok (.aload_n 0, 1) := by decide +kernel
theorem dX11_undo_38 : decode cX11_undo 38 = .ok (.getfield 100, 3) := by decide +kernel
theorem dX11_undo_41 : decode cX11_undo 41 = .ok (.bipush 114, 2) := by decide +kernel
theorem dX11_undo_43 : decode cX11_undo 43 = .ok (.aload_n 0, 1) := by decide +kernel
theorem dX11_undo_44 : decode cX11_undo 44 = .ok (.getfield 304, 3) := by decide +kernel
theorem dX11_undo_47 : decode cX11_undo 47 = .ok (.imul, 1) := by decide +kernel
theorem dX11_undo_48 : decode cX11_undo 48 = .ok (.iload_n 1, 1) := by decide +kernel
theorem dX11_undo_49 : decode cX11_undo 49 = .ok (.iadd, 1) := by decide +kernel
theorem dX11_undo_50 : decode cX11_undo 50 = .ok (.iaload, 1) := by decide +kernel
theorem dX11_undo_51 : decode cX11_undo 51 = .ok (.iastore, 1) := by decide +kernel
theorem dX11_undo_52 : decode cX11_undo 52 = .ok (.iinc 1 1, 3) := by decide +kernel
theorem dX11_undo_55 : decode cX11_undo 55 = .ok (.goto (-29), 3) := by decide +kernel
theorem dX11_undo_58 : decode cX11_undo 58 = .ok (.aload_n 0, 1) := by decide +kernel
theorem dX11_undo_59 : decode cX11_undo 59 = .ok (.getfield 304, 3) := by decide +kernel
theorem dX11_undo_62 : decode cX11_undo 62 = .ok (.ireturn, 1) := by decide +kernel
theorem dX11_keep_0 : decode cX11_keep 0 = .ok (.aload_n 0, 1) := by decide +kernel
theorem dX11_keep_1 : decode cX11_keep 1 = .ok (.iconst 0, 1) := by decide +kernel
theorem dX11_keep_2 : decode cX11_keep 2 = .ok (.putfield 119, 3) := by decide +kernel
theorem dX11_keep_5 : decode cX11_keep 5 = .ok (.iload_n 1, 1) := by decide +kernel
theorem dX11_keep_6 : decode cX11_keep 6 = .ok (.i2l, 1) := by decide +kernel
theorem dX11_keep_7 : decode cX11_keep 7 = .ok (.lconst 0, 1) := by decide +kernel
theorem dX11_keep_8 : decode cX11_keep 8 = .ok (.lconst 1, 1) := by decide +kernel
theorem dX11_keep_9 : decode cX11_keep 9 = .ok (.invokestatic 156, 3) := by decide +kernel
theorem dX11_keep_12 : decode cX11_keep 12 = .ok (.ifCond .eq 16, 3) := by decide +kernel
theorem dX11_keep_15 : decode cX11_keep 15 = .ok (.iload_n 2, 1) := by decide +kernel
theorem dX11_keep_16 : decode cX11_keep 16 = .ok (.ifCond .eq 14, 3) := by decide +kernel
theorem dX11_keep_19 : decode cX11_keep 19 = .ok (.aload_n 0, 1) := by decide +kernel
theorem dX11_keep_20 : decode cX11_keep 20 = .ok (.getfield 106, 3) := by decide +kernel
theorem dX11_keep_23 : decode cX11_keep 23 = .ok (.iload_n 1, 1) := by decide +kernel
theorem dX11_keep_24 : decode cX11_keep 24 = .ok (.baload, 1) := by decide +kernel
theorem dX11_keep_25 : decode cX11_keep 25 = .ok (.ifCond .ne 5, 3) := by decide +kernel
theorem dX11_keep_28 : decode cX11_keep 28 = .ok (.iconst 0, 1) := by decide +kernel
theorem dX11_keep_29 : decode cX11_keep 29 = .ok (.ireturn, 1) := by decide +kernel
theorem dX11_keep_30 : decode cX11_keep 30 = .ok (.iconst 0, 1) := by decide +kernel
theorem dX11_keep_31 : decode cX11_keep 31 = .ok (.istore_n 3, 1) := by decide +kernel
theorem dX11_keep_32 : decode cX11_keep 32 = .ok (.iload_n 3, 1) := by decide +kernel
theorem dX11_keep_33 : decode cX11_keep 33 = .ok (.bipush 114, 2) := by decide +kernel
theorem dX11_keep_35 : decode cX11_keep 35 = .ok (.if_icmp .ge 50, 3) := by decide +kernel
theorem dX11_keep_38 : decode cX11_keep 38 = .ok (.iload_n 2, 1) := by decide +kernel
theorem dX11_keep_39 : decode cX11_keep 39 = .ok (.ifCond .eq 23, 3) := by decide +kernel
theorem dX11_keep_42 : decode cX11_keep 42 = .ok (.aload_n 0, 1) := by decide +kernel
theorem dX11_keep_43 : decode cX11_keep 43 = .ok (.getfield 97, 3) := by decide +kernel
theorem dX11_keep_46 : decode cX11_keep 46 = .ok (.iload_n 3, 1) := by decide +kernel
theorem dX11_keep_47 : decode cX11_keep 47 = .ok (.aload_n 0, 1) := by decide +kernel
theorem dX11_keep_48 : decode cX11_keep 48 = .ok (.getfield 103, 3) := by decide +kernel
theorem dX11_keep_51 : decode cX11_keep 51 = .ok (.bipush 114, 2) := by decide +kernel
theorem dX11_keep_53 : decode cX11_keep 53 = .ok (.iload_n 1, 1) := by decide +kernel
theorem dX11_keep_54 : decode cX11_keep 54 = .ok (.imul, 1) := by decide +kernel
theorem dX11_keep_55 : decode cX11_keep 55 = .ok (.iload_n 3, 1) := by decide +kernel
theorem dX11_keep_56 : decode cX11_keep 56 = .ok (.iadd, 1) := by decide +kernel
theorem dX11_keep_57 : decode cX11_keep 57 = .ok (.iaload, 1) := by decide +kernel
theorem dX11_keep_58 : decode cX11_keep 58 = .ok (.iastore, 1) := by decide +kernel
theorem dX11_keep_59 : decode cX11_keep 59 = .ok (.goto 20, 3) := by decide +kernel
theorem dX11_keep_62 : decode cX11_keep 62 = .ok (.aload_n 0, 1) := by decide +kernel
theorem dX11_keep_63 : decode cX11_keep 63 = .ok (.getfield 103, 3) := by decide +kernel
theorem dX11_keep_66 : decode cX11_keep 66 = .ok (.bipush 114, 2) := by decide +kernel
theorem dX11_keep_68 : decode cX11_keep 68 = .ok (.iload_n 1, 1) := by decide +kernel
theorem dX11_keep_69 : decode cX11_keep 69 = .ok (.imul, 1) := by decide +kernel
theorem dX11_keep_70 : decode cX11_keep 70 = .ok (.iload_n 3, 1) := by decide +kernel
theorem dX11_keep_71 : decode cX11_keep 71 = .ok (.iadd, 1) := by decide +kernel
theorem dX11_keep_72 : decode cX11_keep 72 = .ok (.aload_n 0, 1) := by decide +kernel
theorem dX11_keep_73 : decode cX11_keep 73 = .ok (.getfield 97, 3) := by decide +kernel
theorem dX11_keep_76 : decode cX11_keep 76 = .ok (.iload_n 3, 1) := by decide +kernel
theorem dX11_keep_77 : decode cX11_keep 77 = .ok (.iaload, 1) := by decide +kernel
theorem dX11_keep_78 : decode cX11_keep 78 = .ok (.iastore, 1) := by decide +kernel
theorem dX11_keep_79 : decode cX11_keep 79 = .ok (.iinc 3 1, 3) := by decide +kernel
theorem dX11_keep_82 : decode cX11_keep 82 = .ok (.goto (-50), 3) := by decide +kernel
theorem dX11_keep_85 : decode cX11_keep 85 = .ok (.iload_n 2, 1) := by decide +kernel
theorem dX11_keep_86 : decode cX11_keep 86 = .ok (.ifCond .eq 11, 3) := by decide +kernel
theorem dX11_keep_89 : decode cX11_keep 89 = .ok (.aload_n 0, 1) := by decide +kernel
theorem dX11_keep_90 : decode cX11_keep 90 = .ok (.iconst 0, 1) := by decide +kernel
theorem dX11_keep_91 : decode cX11_keep 91 = .ok (.putfield 304, 3) := by decide +kernel
theorem dX11_keep_94 : decode cX11_keep 94 = .ok (.goto 10, 3) := by decide +kernel
theorem dX11_keep_97 : decode cX11_keep 97 = .ok (.aload_n 0, 1) := by decide +kernel
theorem dX11_keep_98 : decode cX11_keep 98 = .ok (.getfield 106, 3) := by decide +kernel
theorem dX11_keep_101 : decode cX11_keep 101 = .ok (.iload_n 1, 1) := by decide +kernel
theorem dX11_keep_102 : decode cX11_keep 102 = .ok (.iconst 1, 1) := by decide +kernel
theorem dX11_keep_103 : decode cX11_keep 103 = .ok (.bastore, 1) := by decide +kernel
theorem dX11_keep_104 : decode cX11_keep 104 = .ok (.iconst 1, 1) := by decide +kernel
theorem dX11_keep_105 : decode cX11_keep 105 = .ok (.ireturn, 1) := by decide +kernel
theorem dX11_count_0 : decode cX11_count 0 = .ok (.aload_n 0, 1) := by decide +kernel
theorem dX11_count_1 : decode cX11_count 1 = .ok (.iconst 0, 1) := by decide +kernel
theorem dX11_count_2 : decode cX11_count 2 = .ok (.putfield 119, 3) := by decide +kernel
theorem dX11_count_5 : decode cX11_count 5 = .ok (.iload_n 1, 1) := by decide +kernel
theorem dX11_count_6 : decode cX11_count 6 = .ok (.tableswitch 156 0 14 #[74, 81, 88, 95, 102, 109, 116, 123, 131, 136, 141, 146, 146, 146, 146], 74) := by decide +kernel
theorem dX11_count_80 : decode cX11_count 80 = .ok (.aload_n 0, 1) := by decide +kernel
theorem dX11_count_81 : decode cX11_count 81 = .ok (.getfield 13, 3) := by decide +kernel
theorem dX11_count_84 : decode cX11_count 84 = .ok (.iconst 0, 1) := by decide +kernel
theorem dX11_count_85 : decode cX11_count 85 = .ok (.iaload, 1) := by decide +kernel
theorem dX11_count_86 : decode cX11_count 86 = .ok (.ireturn, 1) := by decide +kernel
theorem dX11_count_87 : decode cX11_count 87 = .ok (.aload_n 0, 1) := by decide +kernel
theorem dX11_count_88 : decode cX11_count 88 = .ok (.getfield 13, 3) := by decide +kernel
theorem dX11_count_91 : decode cX11_count 91 = .ok (.iconst 5, 1) := by decide +kernel
theorem dX11_count_92 : decode cX11_count 92 = .ok (.iaload, 1) := by decide +kernel
theorem dX11_count_93 : decode cX11_count 93 = .ok (.ireturn, 1) := by decide +kernel
theorem dX11_count_94 : decode cX11_count 94 = .ok (.aload_n 0, 1) := by decide +kernel
theorem dX11_count_95 : decode cX11_count 95 = .ok (.getfield 13, 3) := by decide +kernel
theorem dX11_count_98 : decode cX11_count 98 = .ok (.iconst 1, 1) := by decide +kernel
theorem dX11_count_99 : decode cX11_count 99 = .ok (.iaload, 1) := by decide +kernel
theorem dX11_count_100 : decode cX11_count 100 = .ok (.ireturn, 1) := by decide +kernel
theorem dX11_count_101 : decode cX11_count 101 = .ok (.aload_n 0, 1) := by decide +kernel
theorem dX11_count_102 : decode cX11_count 102 = .ok (.getfield 13, 3) := by decide +kernel
theorem dX11_count_105 : decode cX11_count 105 = .ok (.iconst 2, 1) := by decide +kernel
theorem dX11_count_106 : decode cX11_count 106 = .ok (.iaload, 1) := by decide +kernel
theorem dX11_count_107 : decode cX11_count 107 = .ok (.ireturn, 1) := by decide +kernel
theorem dX11_count_108 : decode cX11_count 108 = .ok (.aload_n 0, 1) := by decide +kernel
theorem dX11_count_109 : decode cX11_count 109 = .ok (.getfield 13, 3) := by decide +kernel
theorem dX11_count_112 : decode cX11_count 112 = .ok (.iconst 3, 1) := by decide +kernel
theorem dX11_count_113 : decode cX11_count 113 = .ok (.iaload, 1) := by decide +kernel
theorem dX11_count_114 : decode cX11_count 114 = .ok (.ireturn, 1) := by decide +kernel
theorem dX11_count_115 : decode cX11_count 115 = .ok (.aload_n 0, 1) := by decide +kernel
theorem dX11_count_116 : decode cX11_count 116 = .ok (.getfield 13, 3) := by decide +kernel
theorem dX11_count_119 : decode cX11_count 119 = .ok (.iconst 4, 1) := by decide +kernel
theorem dX11_count_120 : decode cX11_count 120 = .ok (.iaload, 1) := by decide +kernel
theorem dX11_count_121 : decode cX11_count 121 = .ok (.ireturn, 1) := by decide +kernel
theorem dX11_count_122 : decode cX11_count 122 = .ok (.aload_n 0, 1) := by decide +kernel
theorem dX11_count_123 : decode cX11_count 123 = .ok (.getfield 97, 3) := by decide +kernel
theorem dX11_count_126 : decode cX11_count 126 = .ok (.iconst 0, 1) := by decide +kernel
theorem dX11_count_127 : decode cX11_count 127 = .ok (.iaload, 1) := by decide +kernel
theorem dX11_count_128 : decode cX11_count 128 = .ok (.ireturn, 1) := by decide +kernel
theorem dX11_count_129 : decode cX11_count 129 = .ok (.aload_n 0, 1) := by decide +kernel
theorem dX11_count_130 : decode cX11_count 130 = .ok (.getfield 97, 3) := by decide +kernel
theorem dX11_count_133 : decode cX11_count 133 = .ok (.bipush 49, 2) := by decide +kernel
theorem dX11_count_135 : decode cX11_count 135 = .ok (.iaload, 1) := by decide +kernel
theorem dX11_count_136 : decode cX11_count 136 = .ok (.ireturn, 1) := by decide +kernel
theorem dX11_count_137 : decode cX11_count 137 = .ok (.aload_n 0, 1) := by decide +kernel
theorem dX11_count_138 : decode cX11_count 138 = .ok (.getfield 304, 3) := by decide +kernel
theorem dX11_count_141 : decode cX11_count 141 = .ok (.ireturn, 1) := by decide +kernel
theorem dX11_count_142 : decode cX11_count 142 = .ok (.aload_n 0, 1) := by decide +kernel
theorem dX11_count_143 : decode cX11_count 143 = .ok (.getfield 123, 3) := by decide +kernel
theorem dX11_count_146 : decode cX11_count 146 = .ok (.ireturn, 1) := by decide +kernel
theorem dX11_count_147 : decode cX11_count 147 = .ok (.aload_n 0, 1) := by decide +kernel
theorem dX11_count_148 : decode cX11_count 148 = .ok (.getfield 414, 3) := by decide +kernel
theorem dX11_count_151 : decode cX11_count 151 = .ok (.ireturn, 1) := by decide +kernel
theorem dX11_count_152 : decode cX11_count 152 = .ok (.aload_n 0, 1) := by decide +kernel
theorem dX11_count_153 : decode cX11_count 153 = .ok (.getfield 17, 3) := by decide +kernel
theorem dX11_count_156 : decode cX11_count 156 = .ok (.iload_n 1, 1) := by decide +kernel
theorem dX11_count_157 : decode cX11_count 157 = .ok (.bipush 11, 2) := by decide +kernel
theorem dX11_count_159 : decode cX11_count 159 = .ok (.isub, 1) := by decide +kernel
theorem dX11_count_160 : decode cX11_count 160 = .ok (.iaload, 1) := by decide +kernel
theorem dX11_count_161 : decode cX11_count 161 = .ok (.ireturn, 1) := by decide +kernel
theorem dX11_count_162 : decode cX11_count 162 = .ok (.iconst (-1), 1) := by decide +kernel
theorem dX11_count_163 : decode cX11_count 163 = .ok (.ireturn, 1) := by decide +kernel
theorem dJ6_bitCount_0f7a4_0 : decode cJ6_bitCount_0f7a4 0 = .ok (.iload_n 0, 1) := by decide +kernel
theorem dJ6_bitCount_0f7a4_1 : decode cJ6_bitCount_0f7a4 1 = .ok (.iload_n 0, 1) := by decide +kernel
theorem dJ6_bitCount_0f7a4_2 : decode cJ6_bitCount_0f7a4 2 = .ok (.iconst 1, 1) := by decide +kernel
theorem dJ6_bitCount_0f7a4_3 : decode cJ6_bitCount_0f7a4 3 = .ok (.iushr, 1) := by decide +kernel
theorem dJ6_bitCount_0f7a4_4 : decode cJ6_bitCount_0f7a4 4 = .ok (.ldc_w 265, 3) := by decide +kernel
theorem dJ6_bitCount_0f7a4_7 : decode cJ6_bitCount_0f7a4 7 = .ok (.iand, 1) := by decide +kernel
theorem dJ6_bitCount_0f7a4_8 : decode cJ6_bitCount_0f7a4 8 = .ok (.isub, 1) := by decide +kernel
theorem dJ6_bitCount_0f7a4_9 : decode cJ6_bitCount_0f7a4 9 = .ok (.istore_n 0, 1) := by decide +kernel
theorem dJ6_bitCount_0f7a4_10 : decode cJ6_bitCount_0f7a4 10 = .ok (.iload_n 0, 1) := by decide +kernel
theorem dJ6_bitCount_0f7a4_11 : decode cJ6_bitCount_0f7a4 11 = .ok (.ldc_w 266, 3) := by decide +kernel
theorem dJ6_bitCount_0f7a4_14 : decode cJ6_bitCount_0f7a4 14 = .ok (.iand, 1) := by decide +kernel
theorem dJ6_bitCount_0f7a4_15 : decode cJ6_bitCount_0f7a4 15 = .ok (.iload_n 0, 1) := by decide +kernel
theorem dJ6_bitCount_0f7a4_16 : decode cJ6_bitCount_0f7a4 16 = .ok (.iconst 2, 1) := by decide +kernel
theorem dJ6_bitCount_0f7a4_17 : decode cJ6_bitCount_0f7a4 17 = .ok (.iushr, 1) := by decide +kernel
theorem dJ6_bitCount_0f7a4_18 : decode cJ6_bitCount_0f7a4 18 = .ok (.ldc_w 266, 3) := by decide +kernel
theorem dJ6_bitCount_0f7a4_21 : decode cJ6_bitCount_0f7a4 21 = .ok (.iand, 1) := by decide +kernel
theorem dJ6_bitCount_0f7a4_22 : decode cJ6_bitCount_0f7a4 22 = .ok (.iadd, 1) := by decide +kernel
theorem dJ6_bitCount_0f7a4_23 : decode cJ6_bitCount_0f7a4 23 = .ok (.istore_n 0, 1) := by decide +kernel
theorem dJ6_bitCount_0f7a4_24 : decode cJ6_bitCount_0f7a4 24 = .ok (.iload_n 0, 1) := by decide +kernel
theorem dJ6_bitCount_0f7a4_25 : decode cJ6_bitCount_0f7a4 25 = .ok (.iload_n 0, 1) := by decide +kernel
theorem dJ6_bitCount_0f7a4_26 : decode cJ6_bitCount_0f7a4 26 = .ok (.iconst 4, 1) := by decide +kernel
theorem dJ6_bitCount_0f7a4_27 : decode cJ6_bitCount_0f7a4 27 = .ok (.iushr, 1) := by decide +kernel
theorem dJ6_bitCount_0f7a4_28 : decode cJ6_bitCount_0f7a4 28 = .ok (.iadd, 1) := by decide +kernel
theorem dJ6_bitCount_0f7a4_29 : decode cJ6_bitCount_0f7a4 29 = .ok (.ldc_w 267, 3) := by decide +kernel
theorem dJ6_bitCount_0f7a4_32 : decode cJ6_bitCount_0f7a4 32 = .ok (.iand, 1) := by decide +kernel
theorem dJ6_bitCount_0f7a4_33 : decode cJ6_bitCount_0f7a4 33 = .ok (.istore_n 0, 1) := by decide +kernel
theorem dJ6_bitCount_0f7a4_34 : decode cJ6_bitCount_0f7a4 34 = .ok (.iload_n 0, 1) := by decide +kernel
theorem dJ6_bitCount_0f7a4_35 : decode cJ6_bitCount_0f7a4 35 = .ok (.iload_n 0, 1) := by decide +kernel
theorem dJ6_bitCount_0f7a4_36 : decode cJ6_bitCount_0f7a4 36 = .ok (.bipush 8, 2) := by decide +kernel
theorem dJ6_bitCount_0f7a4_38 : decode cJ6_bitCount_0f7a4 38 = .ok (.iushr, 1) := by decide +kernel
theorem dJ6_bitCount_0f7a4_39 : decode cJ6_bitCount_0f7a4 39 = .ok (.iadd, 1) := by decide +kernel
theorem dJ6_bitCount_0f7a4_40 : decode cJ6_bitCount_0f7a4 40 = .ok (.istore_n 0, 1) := by decide +kernel
theorem dJ6_bitCount_0f7a4_41 : decode cJ6_bitCount_0f7a4 41 = .ok (.iload_n 0, 1) := by decide +kernel
theorem dJ6_bitCount_0f7a4_42 : decode cJ6_bitCount_0f7a4 42 = .ok (.iload_n 0, 1) := by decide +kernel
theorem dJ6_bitCount_0f7a4_43 : decode cJ6_bitCount_0f7a4 43 = .ok (.bipush 16, 2) := by decide +kernel
theorem dJ6_bitCount_0f7a4_45 : decode cJ6_bitCount_0f7a4 45 = .ok (.iushr, 1) := by decide +kernel
theorem dJ6_bitCount_0f7a4_46 : decode cJ6_bitCount_0f7a4 46 = .ok (.iadd, 1) := by decide +kernel
theorem dJ6_bitCount_0f7a4_47 : decode cJ6_bitCount_0f7a4 47 = .ok (.istore_n 0, 1) := by decide +kernel
theorem dJ6_bitCount_0f7a4_48 : decode cJ6_bitCount_0f7a4 48 = .ok (.iload_n 0, 1) := by decide +kernel
theorem dJ6_bitCount_0f7a4_49 : decode cJ6_bitCount_0f7a4 49 = .ok (.bipush 63, 2) := by decide +kernel
theorem dJ6_bitCount_0f7a4_51 : decode cJ6_bitCount_0f7a4 51 = .ok (.iand, 1) := by decide +kernel
theorem dJ6_bitCount_0f7a4_52 : decode cJ6_bitCount_0f7a4 52 = .ok (.ireturn, 1) := by decide +kernel
theorem dJ9_min_7cf53_0 : decode cJ9_min_7cf53 0 = .ok (.iload_n 0, 1) := by decide +kernel
theorem dJ9_min_7cf53_1 : decode cJ9_min_7cf53 1 = .ok (.iload_n 1, 1) := by decide +kernel
theorem dJ9_min_7cf53_2 : decode cJ9_min_7cf53 2 = .ok (.if_icmp .gt 7, 3) := by decide +kernel
theorem dJ9_min_7cf53_5 : decode cJ9_min_7cf53 5 = .ok (.iload_n 0, 1) := by decide +kernel
theorem dJ9_min_7cf53_6 : decode cJ9_min_7cf53 6 = .ok (.goto 4, 3) := by decide +kernel
theorem dJ9_min_7cf53_9 : decode cJ9_min_7cf53 9 = .ok (.iload_n 1, 1) := by decide +kernel
theorem dJ9_min_7cf53_10 : decode cJ9_min_7cf53 10 = .ok (.ireturn, 1) := by decide +kernel
theorem dJ0_length_8abf5_0 : decode cJ0_length_8abf5 0 = .ok (.aload_n 0, 1) := by decide +kernel
theorem dJ0_length_8abf5_1 : decode cJ0_length_8abf5 1 = .ok (.getfield 9, 3) := by decide +kernel
theorem dJ0_length_8abf5_4 : decode cJ0_length_8abf5 4 = .ok (.arraylength, 1) := by decide +kernel
theorem dJ0_length_8abf5_5 : decode cJ0_length_8abf5 5 = .ok (.aload_n 0, 1) := by decide +kernel
theorem dJ0_length_8abf5_6 : decode cJ0_length_8abf5 6 = .ok (.invokevirtual 335, 3) := by decide +kernel
theorem dJ0_length_8abf5_9 : decode cJ0_length_8abf5 9 = .ok (.ishr, 1) := by decide +kernel
theorem dJ0_length_8abf5_10 : decode cJ0_length_8abf5 10 = .ok (.ireturn, 1) := by decide +kernel
theorem dJ0_charAt_5068e_0 : decode cJ0_charAt_5068e 0 = .ok (.aload_n 0, 1) := by decide +kernel
theorem dJ0_charAt_5068e_1 : decode cJ0_charAt_5068e 1 = .ok (.invokevirtual 492, 3) := by decide +kernel
theorem dJ0_charAt_5068e_4 : decode cJ0_charAt_5068e 4 = .ok (.ifCond .eq 12, 3) := by decide +kernel
theorem dJ0_charAt_5068e_7 : decode cJ0_charAt_5068e 7 = .ok (.aload_n 0, 1) := by decide +kernel
theorem dJ0_charAt_5068e_8 : decode cJ0_charAt_5068e 8 = .ok (.getfield 9, 3) := by decide +kernel
theorem dJ0_charAt_5068e_11 : decode cJ0_charAt_5068e 11 = .ok (.iload_n 1, 1) := by decide +kernel
theorem dJ0_charAt_5068e_12 : decode cJ0_charAt_5068e 12 = .ok (.invokestatic 495, 3) := by decide +kernel
theorem dJ0_charAt_5068e_15 : decode cJ0_charAt_5068e 15 = .ok (.ireturn, 1) := by decide +kernel
theorem dJ0_charAt_5068e_16 : decode cJ0_charAt_5068e 16 = .ok (.aload_n 0, 1) := by decide +kernel
theorem dJ0_charAt_5068e_17 : decode cJ0_charAt_5068e 17 = .ok (.getfield 9, 3) := by decide +kernel
theorem dJ0_charAt_5068e_20 : decode cJ0_charAt_5068e 20 = .ok (.iload_n 1, 1) := by decide +kernel
theorem dJ0_charAt_5068e_21 : decode cJ0_charAt_5068e 21 = .ok (.invokestatic 498, 3) := by decide +kernel
theorem dJ0_charAt_5068e_24 : decode cJ0_charAt_5068e 24 = .ok (.ireturn, 1) := by decide +kernel
theorem dJ0_coder_7d493_0 : decode cJ0_coder_7d493 0 = .ok (.getstatic 38, 3) := by decide +kernel
theorem dJ0_coder_7d493_3 : decode cJ0_coder_7d493 3 = .ok (.ifCond .eq 10, 3) := by decide +kernel
theorem dJ0_coder_7d493_6 : decode cJ0_coder_7d493 6 = .ok (.aload_n 0, 1) := by decide +kernel
theorem dJ0_coder_7d493_7 : decode cJ0_coder_7d493 7 = .ok (.getfield 15, 3) := by decide +kernel
theorem dJ0_coder_7d493_10 : decode cJ0_coder_7d493 10 = .ok (.goto 4, 3) := by decide +kernel
theorem dJ0_coder_7d493_13 : decode cJ0_coder_7d493 13 = .ok (.iconst 1, 1) := by decide +kernel
theorem dJ0_coder_7d493_14 : decode cJ0_coder_7d493 14 = .ok (.ireturn, 1) := by decide +kernel
theorem dJ0_isLatin1_aae02_0 : decode cJ0_isLatin1_aae02 0 = .ok (.getstatic 38, 3) := by decide +kernel
theorem dJ0_isLatin1_aae02_3 : decode cJ0_isLatin1_aae02 3 = .ok (.ifCond .eq 14, 3) := by decide +kernel
theorem dJ0_isLatin1_aae02_6 : decode cJ0_isLatin1_aae02 6 = .ok (.aload_n 0, 1) := by decide +kernel
theorem dJ0_isLatin1_aae02_7 : decode cJ0_isLatin1_aae02 7 = .ok (.getfield 15, 3) := by decide +kernel
theorem dJ0_isLatin1_aae02_10 : decode cJ0_isLatin1_aae02 10 = .ok (.ifCond .ne 7, 3) := by decide +kernel
theorem dJ0_isLatin1_aae02_13 : decode cJ0_isLatin1_aae02 13 = .ok (.iconst 1, 1) := by decide +kernel
theorem dJ0_isLatin1_aae02_14 : decode cJ0_isLatin1_aae02 14 = .ok (.goto 4, 3) := by decide +kernel
theorem dJ0_isLatin1_aae02_17 : decode cJ0_isLatin1_aae02 17 = .ok (.iconst 0, 1) := by decide +kernel
theorem dJ0_isLatin1_aae02_18 : decode cJ0_isLatin1_aae02 18 = .ok (.ireturn, 1) := by decide +kernel
theorem dJ0_checkIndex_df160_0 : decode cJ0_checkIndex_df160 0 = .ok (.iload_n 0, 1) := by decide +kernel
theorem dJ0_checkIndex_df160_1 : decode cJ0_checkIndex_df160 1 = .ok (.iload_n 1, 1) := by decide +kernel
theorem dJ0_checkIndex_df160_2 : decode cJ0_checkIndex_df160 2 = .ok (.getstatic 1053, 3) := by decide +kernel
theorem dJ0_checkIndex_df160_5 : decode cJ0_checkIndex_df160 5 = .ok (.invokestatic 1059, 3) := by decide +kernel
theorem dJ0_checkIndex_df160_8 : decode cJ0_checkIndex_df160 8 = .ok (.pop, 1) := by decide +kernel
theorem dJ0_checkIndex_df160_9 : decode cJ0_checkIndex_df160 9 = .ok (.return_, 1) := by decide +kernel
theorem dJ1_charAt_3b067_0 : decode cJ1_charAt_3b067 0 = .ok (.iload_n 1, 1) := by decide +kernel
theorem dJ1_charAt_3b067_1 : decode cJ1_charAt_3b067 1 = .ok (.aload_n 0, 1) := by decide +kernel
theorem dJ1_charAt_3b067_2 : decode cJ1_charAt_3b067 2 = .ok (.arraylength, 1) := by decide +kernel
theorem dJ1_charAt_3b067_3 : decode cJ1_charAt_3b067 3 = .ok (.invokestatic 9, 3) := by decide +kernel
theorem dJ1_charAt_3b067_6 : decode cJ1_charAt_3b067 6 = .ok (.aload_n 0, 1) := by decide +kernel
theorem dJ1_charAt_3b067_7 : decode cJ1_charAt_3b067 7 = .ok (.iload_n 1, 1) := by decide +kernel
theorem dJ1_charAt_3b067_8 : decode cJ1_charAt_3b067 8 = .ok (.baload, 1) := by decide +kernel
theorem dJ1_charAt_3b067_9 : decode cJ1_charAt_3b067 9 = .ok (.sipush 255, 3) := by decide +kernel
theorem dJ1_charAt_3b067_12 : decode cJ1_charAt_3b067 12 = .ok (.iand, 1) := by decide +kernel
theorem dJ1_charAt_3b067_13 : decode cJ1_charAt_3b067 13 = .ok (.i2c, 1) := by decide +kernel
theorem dJ1_charAt_3b067_14 : decode cJ1_charAt_3b067 14 = .ok (.ireturn, 1) := by decide +kernel
theorem dJ2_getChar_3b067_0 : decode cJ2_getChar_3b067 0 = .ok (.getstatic 44, 3) := by decide +kernel
theorem dJ2_getChar_3b067_3 : decode cJ2_getChar_3b067 3 = .ok (.ifCond .ne 25, 3) := by decide +kernel
theorem dJ2_getChar_3b067_6 : decode cJ2_getChar_3b067 6 = .ok (.iload_n 1, 1) := by decide +kernel
theorem dJ2_getChar_3b067_7 : decode cJ2_getChar_3b067 7 = .ok (.ifCond .lt 11, 3) := by decide +kernel
theorem dJ2_getChar_3b067_10 : decode cJ2_getChar_3b067 10 = .ok (.iload_n 1, 1) := by decide +kernel
theorem dJ2_getChar_3b067_11 : decode cJ2_getChar_3b067 11 = .ok (.aload_n 0, 1) := by decide +kernel
theorem dJ2_getChar_3b067_12 : decode cJ2_getChar_3b067 12 = .ok (.invokestatic 48, 3) := by decide +kernel
theorem dJ2_getChar_3b067_15 : decode cJ2_getChar_3b067 15 = .ok (.if_icmp .lt 13, 3) := by decide +kernel
theorem dJ2_getChar_3b067_18 : decode cJ2_getChar_3b067 18 = .ok (.new 52, 3) := by decide +kernel
theorem dJ2_getChar_3b067_21 : decode cJ2_getChar_3b067 21 = .ok (.dup, 1) := by decide +kernel
theorem dJ2_getChar_3b067_22 : decode cJ2_getChar_3b067 22 = .ok (.ldc 54, 2) := by decide +kernel
theorem dJ2_getChar_3b067_24 : decode cJ2_getChar_3b067 24 = .ok (.invokespecial 56, 3) := by decide +kernel
theorem dJ2_getChar_3b067_27 : decode cJ2_getChar_3b067 27 = .ok (.athrow, 1) := by decide +kernel
theorem dJ2_getChar_3b067_28 : decode cJ2_getChar_3b067 28 = .ok (.iload_n 1, 1) := by decide +kernel
theorem dJ2_getChar_3b067_29 : decode cJ2_getChar_3b067 29 = .ok (.iconst 1, 1) := by decide +kernel
theorem dJ2_getChar_3b067_30 : decode cJ2_getChar_3b067 30 = .ok (.ishl, 1) := by decide +kernel
theorem dJ2_getChar_3b067_31 : decode cJ2_getChar_3b067 31 = .ok (.istore_n 1, 1) := by decide +kernel
theorem dJ2_getChar_3b067_32 : decode cJ2_getChar_3b067 32 = .ok (.aload_n 0, 1) := by decide +kernel
theorem dJ2_getChar_3b067_33 : decode cJ2_getChar_3b067 33 = .ok (.iload_n 1, 1) := by decide +kernel
theorem dJ2_getChar_3b067_34 : decode cJ2_getChar_3b067 34 = .ok (.iinc 1 1, 3) := by decide +kernel
theorem dJ2_getChar_3b067_37 : decode cJ2_getChar_3b067 37 = .ok (.baload, 1) := by decide +kernel
theorem dJ2_getChar_3b067_38 : decode cJ2_getChar_3b067 38 = .ok (.sipush 255, 3) := by decide +kernel
theorem dJ2_getChar_3b067_41 : decode cJ2_getChar_3b067 41 = .ok (.iand, 1) := by decide +kernel
theorem dJ2_getChar_3b067_42 : decode cJ2_getChar_3b067 42 = .ok (.getstatic 59, 3) := by decide +kernel
theorem dJ2_getChar_3b067_45 : decode cJ2_getChar_3b067 45 = .ok (.ishl, 1) := by decide +kernel
theorem dJ2_getChar_3b067_46 : decode cJ2_getChar_3b067 46 = .ok (.aload_n 0, 1) := by decide +kernel
theorem dJ2_getChar_3b067_47 : decode cJ2_getChar_3b067 47 = .ok (.iload_n 1, 1) := by decide +kernel
theorem dJ2_getChar_3b067_48 : decode cJ2_getChar_3b067 48 = .ok (.baload, 1) := by decide +kernel
theorem dJ2_getChar_3b067_49 : decode cJ2_getChar_3b067 49 = .ok (.sipush 255, 3) := by decide +kernel
theorem dJ2_getChar_3b067_52 : decode cJ2_getChar_3b067 52 = .ok (.iand, 1) := by decide +kernel
theorem dJ2_getChar_3b067_53 : decode cJ2_getChar_3b067 53 = .ok (.getstatic 63, 3) := by decide +kernel
theorem dJ2_getChar_3b067_56 : decode cJ2_getChar_3b067 56 = .ok (.ishl, 1) := by decide +kernel
theorem dJ2_getChar_3b067_57 : decode cJ2_getChar_3b067 57 = .ok (.ior, 1) := by decide +kernel
theorem dJ2_getChar_3b067_58 : decode cJ2_getChar_3b067 58 = .ok (.i2c, 1) := by decide +kernel
theorem dJ2_getChar_3b067_59 : decode cJ2_getChar_3b067 59 = .ok (.ireturn, 1) := by decide +kernel
theorem dJ2_length_9d52b_0 : decode cJ2_length_9d52b 0 = .ok (.aload_n 0, 1) := by decide +kernel
theorem dJ2_length_9d52b_1 : decode cJ2_length_9d52b 1 = .ok (.arraylength, 1) := by decide +kernel
theorem dJ2_length_9d52b_2 : decode cJ2_length_9d52b 2 = .ok (.iconst 1, 1) := by decide +kernel
theorem dJ2_length_9d52b_3 : decode cJ2_length_9d52b 3 = .ok (.ishr, 1) := by decide +kernel
theorem dJ2_length_9d52b_4 : decode cJ2_length_9d52b 4 = .ok (.ireturn, 1) := by decide +kernel
theorem dJ2_charAt_3b067_0 : decode cJ2_charAt_3b067 0 = .ok (.iload_n 1, 1) := by decide +kernel
theorem dJ2_charAt_3b067_1 : decode cJ2_charAt_3b067 1 = .ok (.aload_n 0, 1) := by decide +kernel
theorem dJ2_charAt_3b067_2 : decode cJ2_charAt_3b067 2 = .ok (.invokestatic 67, 3) := by decide +kernel
theorem dJ2_charAt_3b067_5 : decode cJ2_charAt_3b067 5 = .ok (.aload_n 0, 1) := by decide +kernel
theorem dJ2_charAt_3b067_6 : decode cJ2_charAt_3b067 6 = .ok (.iload_n 1, 1) := by decide +kernel
theorem dJ2_charAt_3b067_7 : decode cJ2_charAt_3b067 7 = .ok (.invokestatic 71, 3) := by decide +kernel
theorem dJ2_charAt_3b067_10 : decode cJ2_charAt_3b067 10 = .ok (.ireturn, 1) := by decide +kernel
theorem dJ2_checkIndex_2214a_0 : decode cJ2_checkIndex_2214a 0 = .ok (.iload_n 0, 1) := by decide +kernel
theorem dJ2_checkIndex_2214a_1 : decode cJ2_checkIndex_2214a 1 = .ok (.aload_n 1, 1) := by decide +kernel
theorem dJ2_checkIndex_2214a_2 : decode cJ2_checkIndex_2214a 2 = .ok (.invokestatic 48, 3) := by decide +kernel
theorem dJ2_checkIndex_2214a_5 : decode cJ2_checkIndex_2214a 5 = .ok (.invokestatic 414, 3) := by decide +kernel
theorem dJ2_checkIndex_2214a_8 : decode cJ2_checkIndex_2214a 8 = .ok (.return_, 1) := by decide +kernel
theorem dJ7_fill_53178_0 : decode cJ7_fill_53178 0 = .ok (.iconst 0, 1) := by decide +kernel
theorem dJ7_fill_53178_1 : decode cJ7_fill_53178 1 = .ok (.istore_n 2, 1) := by decide +kernel
theorem dJ7_fill_53178_2 : decode cJ7_fill_53178 2 = .ok (.aload_n 0, 1) := by decide +kernel
theorem dJ7_fill_53178_3 : decode cJ7_fill_53178 3 = .ok (.arraylength, 1) := by decide +kernel
theorem dJ7_fill_53178_4 : decode cJ7_fill_53178 4 = .ok (.istore_n 3, 1) := by decide +kernel
theorem dJ7_fill_53178_5 : decode cJ7_fill_53178 5 = .ok (.iload_n 2, 1) := by decide +kernel
theorem dJ7_fill_53178_6 : decode cJ7_fill_53178 6 = .ok (.iload_n 3, 1) := by decide +kernel
theorem dJ7_fill_53178_7 : decode cJ7_fill_53178 7 = .ok (.if_icmp .ge 13, 3) := by decide +kernel
theorem dJ7_fill_53178_10 : decode cJ7_fill_53178 10 = .ok (.aload_n 0, 1) := by decide +kernel
theorem dJ7_fill_53178_11 : decode cJ7_fill_53178 11 = .ok (.iload_n 2, 1) := by decide +kernel
theorem dJ7_fill_53178_12 : decode cJ7_fill_53178 12 = .ok (.iload_n 1, 1) := by decide +kernel
theorem dJ7_fill_53178_13 : decode cJ7_fill_53178 13 = .ok (.iastore, 1) := by decide +kernel
theorem dJ7_fill_53178_14 : decode cJ7_fill_53178 14 = .ok (.iinc 2 1, 3) := by decide +kernel
theorem dJ7_fill_53178_17 : decode cJ7_fill_53178 17 = .ok (.goto (-12), 3) := by decide +kernel
theorem dJ7_fill_53178_20 : decode cJ7_fill_53178 20 = .ok (.return_, 1) := by decide +kernel
theorem dJ3_checkIndex_8e157_0 : decode cJ3_checkIndex_8e157 0 = .ok (.iload_n 0, 1) := by decide +kernel
theorem dJ3_checkIndex_8e157_1 : decode cJ3_checkIndex_8e157 1 = .ok (.ifCond .lt 8, 3) := by decide +kernel
theorem dJ3_checkIndex_8e157_4 : decode cJ3_checkIndex_8e157 4 = .ok (.iload_n 0, 1) := by decide +kernel
theorem dJ3_checkIndex_8e157_5 : decode cJ3_checkIndex_8e157 5 = .ok (.iload_n 1, 1) := by decide +kernel
theorem dJ3_checkIndex_8e157_6 : decode cJ3_checkIndex_8e157 6 = .ok (.if_icmp .lt 10, 3) := by decide +kernel
theorem dJ3_checkIndex_8e157_9 : decode cJ3_checkIndex_8e157 9 = .ok (.aload_n 2, 1) := by decide +kernel
theorem dJ3_checkIndex_8e157_10 : decode cJ3_checkIndex_8e157 10 = .ok (.iload_n 0, 1) := by decide +kernel
theorem dJ3_checkIndex_8e157_11 : decode cJ3_checkIndex_8e157 11 = .ok (.iload_n 1, 1) := by decide +kernel
theorem dJ3_checkIndex_8e157_12 : decode cJ3_checkIndex_8e157 12 = .ok (.invokestatic 95, 3) := by decide +kernel
theorem dJ3_checkIndex_8e157_15 : decode cJ3_checkIndex_8e157 15 = .ok (.athrow, 1) := by decide +kernel
theorem dJ3_checkIndex_8e157_16 : decode cJ3_checkIndex_8e157 16 = .ok (.iload_n 0, 1) := by decide +kernel
theorem dJ3_checkIndex_8e157_17 : decode cJ3_checkIndex_8e157 17 = .ok (.ireturn, 1) := by decide +kernel
theorem dL_frame_0 : decode cL_frame 0 = .ok (.aload 4, 2) := by decide +kernel
theorem dL_frame_2 : decode cL_frame 2 = .ok (.iconst 0, 1) := by decide +kernel
theorem dL_frame_3 : decode cL_frame 3 = .ok (.aload_n 0, 1) := by decide +kernel
theorem dL_frame_4 : decode cL_frame 4 = .ok (.iload_n 1, 1) := by decide +kernel
theorem dL_frame_5 : decode cL_frame 5 = .ok (.iload_n 2, 1) := by decide +kernel
theorem dL_frame_6 : decode cL_frame 6 = .ok (.iload_n 3, 1) := by decide +kernel
theorem dL_frame_7 : decode cL_frame 7 = .ok (.invokevirtual 7, 3) := by decide +kernel
theorem dL_frame_10 : decode cL_frame 10 = .ok (.i2l, 1) := by decide +kernel
theorem dL_frame_11 : decode cL_frame 11 = .ok (.lastore, 1) := by decide +kernel
theorem dL_frame_12 : decode cL_frame 12 = .ok (.goto 7, 3) := by decide +kernel
theorem dL_frame_15 : decode cL_frame 15 = .ok (.astore 5, 2) := by decide +kernel
theorem dL_frame_17 : decode cL_frame 17 = .ok (.iconst 1, 1) := by decide +kernel
theorem dL_frame_18 : decode cL_frame 18 = .ok (.ireturn, 1) := by decide +kernel
theorem dL_frame_19 : decode cL_frame 19 = .ok (.iconst 0, 1) := by decide +kernel
theorem dL_frame_20 : decode cL_frame 20 = .ok (.ireturn, 1) := by decide +kernel
theorem dL_log_0 : decode cL_log 0 = .ok (.aload_n 3, 1) := by decide +kernel
theorem dL_log_1 : decode cL_log 1 = .ok (.iconst 0, 1) := by decide +kernel
theorem dL_log_2 : decode cL_log 2 = .ok (.aload_n 0, 1) := by decide +kernel
theorem dL_log_3 : decode cL_log 3 = .ok (.iload_n 1, 1) := by decide +kernel
theorem dL_log_4 : decode cL_log 4 = .ok (.iload_n 2, 1) := by decide +kernel
theorem dL_log_5 : decode cL_log 5 = .ok (.invokevirtual 15, 3) := by decide +kernel
theorem dL_log_8 : decode cL_log 8 = .ok (.i2l, 1) := by decide +kernel
theorem dL_log_9 : decode cL_log 9 = .ok (.lastore, 1) := by decide +kernel
theorem dL_log_10 : decode cL_log 10 = .ok (.goto 7, 3) := by decide +kernel
theorem dL_log_13 : decode cL_log 13 = .ok (.astore 4, 2) := by decide +kernel
theorem dL_log_15 : decode cL_log 15 = .ok (.iconst 1, 1) := by decide +kernel
theorem dL_log_16 : decode cL_log 16 = .ok (.ireturn, 1) := by decide +kernel
theorem dL_log_17 : decode cL_log 17 = .ok (.iconst 0, 1) := by decide +kernel
theorem dL_log_18 : decode cL_log 18 = .ok (.ireturn, 1) := by decide +kernel
theorem dL_row_0 : decode cL_row 0 = .ok (.aload_n 2, 1) := by decide +kernel
theorem dL_row_1 : decode cL_row 1 = .ok (.iconst 0, 1) := by decide +kernel
theorem dL_row_2 : decode cL_row 2 = .ok (.aload_n 0, 1) := by decide +kernel
theorem dL_row_3 : decode cL_row 3 = .ok (.iload_n 1, 1) := by decide +kernel
theorem dL_row_4 : decode cL_row 4 = .ok (.invokevirtual 19, 3) := by decide +kernel
theorem dL_row_7 : decode cL_row 7 = .ok (.i2l, 1) := by decide +kernel
theorem dL_row_8 : decode cL_row 8 = .ok (.lastore, 1) := by decide +kernel
theorem dL_row_9 : decode cL_row 9 = .ok (.goto 6, 3) := by decide +kernel
theorem dL_row_12 : decode cL_row 12 = .ok (.astore_n 3, 1) := by decide +kernel
theorem dL_row_13 : decode cL_row 13 = .ok (.iconst 1, 1) := by decide +kernel
theorem dL_row_14 : decode cL_row 14 = .ok (.ireturn, 1) := by decide +kernel
theorem dL_row_15 : decode cL_row 15 = .ok (.iconst 0, 1) := by decide +kernel
theorem dL_row_16 : decode cL_row 16 = .ok (.ireturn, 1) := by decide +kernel
theorem dL_law_0 : decode cL_law 0 = .ok (.new 8, 3) := by decide +kernel
theorem dL_law_3 : decode cL_law 3 = .ok (.dup, 1) := by decide +kernel
theorem dL_law_4 : decode cL_law 4 = .ok (.invokespecial 23, 3) := by decide +kernel
theorem dL_law_7 : decode cL_law 7 = .ok (.astore_n 1, 1) := by decide +kernel
theorem dL_law_8 : decode cL_law 8 = .ok (.new 24, 3) := by decide +kernel
theorem dL_law_11 : decode cL_law 11 = .ok (.dup, 1) := by decide +kernel
theorem dL_law_12 : decode cL_law 12 = .ok (.invokespecial 26, 3) := by decide +kernel
theorem dL_law_15 : decode cL_law 15 = .ok (.astore_n 2, 1) := by decide +kernel
theorem dL_law_16 : decode cL_law 16 = .ok (.iconst 1, 1) := by decide +kernel
theorem dL_law_17 : decode cL_law 17 = .ok (.newarray .long, 2) := by decide +kernel
theorem dL_law_19 : decode cL_law 19 = .ok (.astore_n 3, 1) := by decide +kernel
theorem dL_law_20 : decode cL_law 20 = .ok (.iconst 0, 1) := by decide +kernel
theorem dL_law_21 : decode cL_law 21 = .ok (.istore 4, 2) := by decide +kernel
theorem dL_law_23 : decode cL_law 23 = .ok (.iload 4, 2) := by decide +kernel
theorem dL_law_25 : decode cL_law 25 = .ok (.aload_n 0, 1) := by decide +kernel
theorem dL_law_26 : decode cL_law 26 = .ok (.arraylength, 1) := by decide +kernel
theorem dL_law_27 : decode cL_law 27 = .ok (.bipush 6, 2) := by decide +kernel
theorem dL_law_29 : decode cL_law 29 = .ok (.isub, 1) := by decide +kernel
theorem dL_law_30 : decode cL_law 30 = .ok (.if_icmp .gt 1411, 3) := by decide +kernel
theorem dL_law_33 : decode cL_law 33 = .ok (.aload_n 0, 1) := by decide +kernel
theorem dL_law_34 : decode cL_law 34 = .ok (.iload 4, 2) := by decide +kernel
theorem dL_law_36 : decode cL_law 36 = .ok (.iaload, 1) := by decide +kernel
theorem dL_law_37 : decode cL_law 37 = .ok (.bipush 63, 2) := by decide +kernel
theorem dL_law_39 : decode cL_law 39 = .ok (.iand, 1) := by decide +kernel
theorem dL_law_40 : decode cL_law 40 = .ok (.tableswitch 1395 0 33 #[152, 225, 250, 287, 324, 361, 398, 478, 515, 552, 629, 654, 679, 704, 729, 766, 779, 816, 853, 890, 927, 952, 977, 1030, 1043, 1068, 1093, 1118, 1131, 1199, 1248, 1304, 1317, 1370], 152) := by decide +kernel
theorem dL_law_192 : decode cL_law 192 = .ok (.aload_n 1, 1) := by decide +kernel
theorem dL_law_193 : decode cL_law 193 = .ok (.aload_n 0, 1) := by decide +kernel
theorem dL_law_194 : decode cL_law 194 = .ok (.iload 4, 2) := by decide +kernel
theorem dL_law_196 : decode cL_law 196 = .ok (.iconst 1, 1) := by decide +kernel
theorem dL_law_197 : decode cL_law 197 = .ok (.iadd, 1) := by decide +kernel
theorem dL_law_198 : decode cL_law 198 = .ok (.iaload, 1) := by decide +kernel
theorem dL_law_199 : decode cL_law 199 = .ok (.aload_n 0, 1) := by decide +kernel
theorem dL_law_200 : decode cL_law 200 = .ok (.iload 4, 2) := by decide +kernel
theorem dL_law_202 : decode cL_law 202 = .ok (.iconst 2, 1) := by decide +kernel
theorem dL_law_203 : decode cL_law 203 = .ok (.iadd, 1) := by decide +kernel
theorem dL_law_204 : decode cL_law 204 = .ok (.iaload, 1) := by decide +kernel
theorem dL_law_205 : decode cL_law 205 = .ok (.aload_n 0, 1) := by decide +kernel
theorem dL_law_206 : decode cL_law 206 = .ok (.iload 4, 2) := by decide +kernel
theorem dL_law_208 : decode cL_law 208 = .ok (.iconst 3, 1) := by decide +kernel
theorem dL_law_209 : decode cL_law 209 = .ok (.iadd, 1) := by decide +kernel
theorem dL_law_210 : decode cL_law 210 = .ok (.iaload, 1) := by decide +kernel
theorem dL_law_211 : decode cL_law 211 = .ok (.aload_n 0, 1) := by decide +kernel
theorem dL_law_212 : decode cL_law 212 = .ok (.iload 4, 2) := by decide +kernel
theorem dL_law_214 : decode cL_law 214 = .ok (.iconst 4, 1) := by decide +kernel
theorem dL_law_215 : decode cL_law 215 = .ok (.iadd, 1) := by decide +kernel
theorem dL_law_216 : decode cL_law 216 = .ok (.iaload, 1) := by decide +kernel
theorem dL_law_217 : decode cL_law 217 = .ok (.aload_n 0, 1) := by decide +kernel
theorem dL_law_218 : decode cL_law 218 = .ok (.iload 4, 2) := by decide +kernel
theorem dL_law_220 : decode cL_law 220 = .ok (.iconst 5, 1) := by decide +kernel
theorem dL_law_221 : decode cL_law 221 = .ok (.iadd, 1) := by decide +kernel
theorem dL_law_222 : decode cL_law 222 = .ok (.iaload, 1) := by decide +kernel
theorem dL_law_223 : decode cL_law 223 = .ok (.invokevirtual 27, 3) := by decide +kernel
theorem dL_law_226 : decode cL_law 226 = .ok (.aload_n 2, 1) := by decide +kernel
theorem dL_law_227 : decode cL_law 227 = .ok (.aload_n 0, 1) := by decide +kernel
theorem dL_law_228 : decode cL_law 228 = .ok (.iload 4, 2) := by decide +kernel
theorem dL_law_230 : decode cL_law 230 = .ok (.iconst 1, 1) := by decide +kernel
theorem dL_law_231 : decode cL_law 231 = .ok (.iadd, 1) := by decide +kernel
theorem dL_law_232 : decode cL_law 232 = .ok (.iaload, 1) := by decide +kernel
theorem dL_law_233 : decode cL_law 233 = .ok (.aload_n 0, 1) := by decide +kernel
theorem dL_law_234 : decode cL_law 234 = .ok (.iload 4, 2) := by decide +kernel
theorem dL_law_236 : decode cL_law 236 = .ok (.iconst 2, 1) := by decide +kernel
theorem dL_law_237 : decode cL_law 237 = .ok (.iadd, 1) := by decide +kernel
theorem dL_law_238 : decode cL_law 238 = .ok (.iaload, 1) := by decide +kernel
theorem dL_law_239 : decode cL_law 239 = .ok (.aload_n 0, 1) := by decide +kernel
theorem dL_law_240 : decode cL_law 240 = .ok (.iload 4, 2) := by decide +kernel
theorem dL_law_242 : decode cL_law 242 = .ok (.iconst 3, 1) := by decide +kernel
theorem dL_law_243 : decode cL_law 243 = .ok (.iadd, 1) := by decide +kernel
theorem dL_law_244 : decode cL_law 244 = .ok (.iaload, 1) := by decide +kernel
theorem dL_law_245 : decode cL_law 245 = .ok (.aload_n 0, 1) := by decide +kernel
theorem dL_law_246 : decode cL_law 246 = .ok (.iload 4, 2) := by decide +kernel
theorem dL_law_248 : decode cL_law 248 = .ok (.iconst 4, 1) := by decide +kernel
theorem dL_law_249 : decode cL_law 249 = .ok (.iadd, 1) := by decide +kernel
theorem dL_law_250 : decode cL_law 250 = .ok (.iaload, 1) := by decide +kernel
theorem dL_law_251 : decode cL_law 251 = .ok (.aload_n 0, 1) := by decide +kernel
theorem dL_law_252 : decode cL_law 252 = .ok (.iload 4, 2) := by decide +kernel
theorem dL_law_254 : decode cL_law 254 = .ok (.iconst 5, 1) := by decide +kernel
theorem dL_law_255 : decode cL_law 255 = .ok (.iadd, 1) := by decide +kernel
theorem dL_law_256 : decode cL_law 256 = .ok (.iaload, 1) := by decide +kernel
theorem dL_law_257 : decode cL_law 257 = .ok (.invokevirtual 31, 3) := by decide +kernel
theorem dL_law_260 : decode cL_law 260 = .ok (.if_icmp .eq 1175, 3) := by decide +kernel
theorem dL_law_263 : decode cL_law 263 = .ok (.iconst 0, 1) := by decide +kernel
theorem dL_law_264 : decode cL_law 264 = .ok (.ireturn, 1) := by decide +kernel
theorem dL_law_265 : decode cL_law 265 = .ok (.aload_n 1, 1) := by decide +kernel
theorem dL_law_266 : decode cL_law 266 = .ok (.aload_n 0, 1) := by decide +kernel
theorem dL_law_267 : decode cL_law 267 = .ok (.iload 4, 2) := by decide +kernel
theorem dL_law_269 : decode cL_law 269 = .ok (.iconst 1, 1) := by decide +kernel
theorem dL_law_270 : decode cL_law 270 = .ok (.iadd, 1) := by decide +kernel
theorem dL_law_271 : decode cL_law 271 = .ok (.iaload, 1) := by decide +kernel
theorem dL_law_272 : decode cL_law 272 = .ok (.invokevirtual 32, 3) := by decide +kernel
theorem dL_law_275 : decode cL_law 275 = .ok (.aload_n 2, 1) := by decide +kernel
theorem dL_law_276 : decode cL_law 276 = .ok (.aload_n 0, 1) := by decide +kernel
theorem dL_law_277 : decode cL_law 277 = .ok (.iload 4, 2) := by decide +kernel
theorem dL_law_279 : decode cL_law 279 = .ok (.iconst 1, 1) := by decide +kernel
theorem dL_law_280 : decode cL_law 280 = .ok (.iadd, 1) := by decide +kernel
theorem dL_law_281 : decode cL_law 281 = .ok (.iaload, 1) := by decide +kernel
theorem dL_law_282 : decode cL_law 282 = .ok (.invokevirtual 35, 3) := by decide +kernel
theorem dL_law_285 : decode cL_law 285 = .ok (.if_icmp .eq 1150, 3) := by decide +kernel
theorem dL_law_288 : decode cL_law 288 = .ok (.iconst 0, 1) := by decide +kernel
theorem dL_law_289 : decode cL_law 289 = .ok (.ireturn, 1) := by decide +kernel
theorem dL_law_290 : decode cL_law 290 = .ok (.aload_n 1, 1) := by decide +kernel
theorem dL_law_291 : decode cL_law 291 = .ok (.aload_n 0, 1) := by decide +kernel
theorem dL_law_292 : decode cL_law 292 = .ok (.iload 4, 2) := by decide +kernel
theorem dL_law_294 : decode cL_law 294 = .ok (.iconst 1, 1) := by decide +kernel
theorem dL_law_295 : decode cL_law 295 = .ok (.iadd, 1) := by decide +kernel
theorem dL_law_296 : decode cL_law 296 = .ok (.iaload, 1) := by decide +kernel
theorem dL_law_297 : decode cL_law 297 = .ok (.aload_n 0, 1) := by decide +kernel
theorem dL_law_298 : decode cL_law 298 = .ok (.iload 4, 2) := by decide +kernel
theorem dL_law_300 : decode cL_law 300 = .ok (.iconst 2, 1) := by decide +kernel
theorem dL_law_301 : decode cL_law 301 = .ok (.iadd, 1) := by decide +kernel
theorem dL_law_302 : decode cL_law 302 = .ok (.iaload, 1) := by decide +kernel
theorem dL_law_303 : decode cL_law 303 = .ok (.invokevirtual 36, 3) := by decide +kernel
theorem dL_law_306 : decode cL_law 306 = .ok (.aload_n 2, 1) := by decide +kernel
theorem dL_law_307 : decode cL_law 307 = .ok (.aload_n 0, 1) := by decide +kernel
theorem dL_law_308 : decode cL_law 308 = .ok (.iload 4, 2) := by decide +kernel
theorem dL_law_310 : decode cL_law 310 = .ok (.iconst 1, 1) := by decide +kernel
theorem dL_law_311 : decode cL_law 311 = .ok (.iadd, 1) := by decide +kernel
theorem dL_law_312 : decode cL_law 312 = .ok (.iaload, 1) := by decide +kernel
theorem dL_law_313 : decode cL_law 313 = .ok (.aload_n 0, 1) := by decide +kernel
theorem dL_law_314 : decode cL_law 314 = .ok (.iload 4, 2) := by decide +kernel
theorem dL_law_316 : decode cL_law 316 = .ok (.iconst 2, 1) := by decide +kernel
theorem dL_law_317 : decode cL_law 317 = .ok (.iadd, 1) := by decide +kernel
theorem dL_law_318 : decode cL_law 318 = .ok (.iaload, 1) := by decide +kernel
theorem dL_law_319 : decode cL_law 319 = .ok (.invokevirtual 39, 3) := by decide +kernel
theorem dL_law_322 : decode cL_law 322 = .ok (.if_icmp .eq 1113, 3) := by decide +kernel
theorem dL_law_325 : decode cL_law 325 = .ok (.iconst 0, 1) := by decide +kernel
theorem dL_law_326 : decode cL_law 326 = .ok (.ireturn, 1) := by decide +kernel
theorem dL_law_327 : decode cL_law 327 = .ok (.aload_n 1, 1) := by decide +kernel
theorem dL_law_328 : decode cL_law 328 = .ok (.aload_n 0, 1) := by decide +kernel
theorem dL_law_329 : decode cL_law 329 = .ok (.iload 4, 2) := by decide +kernel
theorem dL_law_331 : decode cL_law 331 = .ok (.iconst 1, 1) := by decide +kernel
theorem dL_law_332 : decode cL_law 332 = .ok (.iadd, 1) := by decide +kernel
theorem dL_law_333 : decode cL_law 333 = .ok (.iaload, 1) := by decide +kernel
theorem dL_law_334 : decode cL_law 334 = .ok (.aload_n 0, 1) := by decide +kernel
theorem dL_law_335 : decode cL_law 335 = .ok (.iload 4, 2) := by decide +kernel
theorem dL_law_337 : decode cL_law 337 = .ok (.iconst 2, 1) := by decide +kernel
theorem dL_law_338 : decode cL_law 338 = .ok (.iadd, 1) := by decide +kernel
theorem dL_law_339 : decode cL_law 339 = .ok (.iaload, 1) := by decide +kernel
theorem dL_law_340 : decode cL_law 340 = .ok (.invokevirtual 40, 3) := by decide +kernel
theorem dL_law_343 : decode cL_law 343 = .ok (.aload_n 2, 1) := by decide +kernel
theorem dL_law_344 : decode cL_law 344 = .ok (.aload_n 0, 1) := by decide +kernel
theorem dL_law_345 : decode cL_law 345 = .ok (.iload 4, 2) := by decide +kernel
theorem dL_law_347 : decode cL_law 347 = .ok (.iconst 1, 1) := by decide +kernel
theorem dL_law_348 : decode cL_law 348 = .ok (.iadd, 1) := by decide +kernel
theorem dL_law_349 : decode cL_law 349 = .ok (.iaload, 1) := by decide +kernel
theorem dL_law_350 : decode cL_law 350 = .ok (.aload_n 0, 1) := by decide +kernel
theorem dL_law_351 : decode cL_law 351 = .ok (.iload 4, 2) := by decide +kernel
theorem dL_law_353 : decode cL_law 353 = .ok (.iconst 2, 1) := by decide +kernel
theorem dL_law_354 : decode cL_law 354 = .ok (.iadd, 1) := by decide +kernel
theorem dL_law_355 : decode cL_law 355 = .ok (.iaload, 1) := by decide +kernel
theorem dL_law_356 : decode cL_law 356 = .ok (.invokevirtual 43, 3) := by decide +kernel
theorem dL_law_359 : decode cL_law 359 = .ok (.if_icmp .eq 1076, 3) := by decide +kernel
theorem dL_law_362 : decode cL_law 362 = .ok (.iconst 0, 1) := by decide +kernel
theorem dL_law_363 : decode cL_law 363 = .ok (.ireturn, 1) := by decide +kernel
theorem dL_law_364 : decode cL_law 364 = .ok (.aload_n 1, 1) := by decide +kernel
theorem dL_law_365 : decode cL_law 365 = .ok (.aload_n 0, 1) := by decide +kernel
theorem dL_law_366 : decode cL_law 366 = .ok (.iload 4, 2) := by decide +kernel
theorem dL_law_368 : decode cL_law 368 = .ok (.iconst 1, 1) := by decide +kernel
theorem dL_law_369 : decode cL_law 369 = .ok (.iadd, 1) := by decide +kernel
theorem dL_law_370 : decode cL_law 370 = .ok (.iaload, 1) := by decide +kernel
theorem dL_law_371 : decode cL_law 371 = .ok (.aload_n 0, 1) := by decide +kernel
theorem dL_law_372 : decode cL_law 372 = .ok (.iload 4, 2) := by decide +kernel
theorem dL_law_374 : decode cL_law 374 = .ok (.iconst 2, 1) := by decide +kernel
theorem dL_law_375 : decode cL_law 375 = .ok (.iadd, 1) := by decide +kernel
theorem dL_law_376 : decode cL_law 376 = .ok (.iaload, 1) := by decide +kernel
theorem dL_law_377 : decode cL_law 377 = .ok (.invokevirtual 44, 3) := by decide +kernel
theorem dL_law_380 : decode cL_law 380 = .ok (.aload_n 2, 1) := by decide +kernel
theorem dL_law_381 : decode cL_law 381 = .ok (.aload_n 0, 1) := by decide +kernel
theorem dL_law_382 : decode cL_law 382 = .ok (.iload 4, 2) := by decide +kernel
theorem dL_law_384 : decode cL_law 384 = .ok (.iconst 1, 1) := by decide +kernel
theorem dL_law_385 : decode cL_law 385 = .ok (.iadd, 1) := by decide +kernel
theorem dL_law_386 : decode cL_law 386 = .ok (.iaload, 1) := by decide +kernel
theorem dL_law_387 : decode cL_law 387 = .ok (.aload_n 0, 1) := by decide +kernel
theorem dL_law_388 : decode cL_law 388 = .ok (.iload 4, 2) := by decide +kernel
theorem dL_law_390 : decode cL_law 390 = .ok (.iconst 2, 1) := by decide +kernel
theorem dL_law_391 : decode cL_law 391 = .ok (.iadd, 1) := by decide +kernel
theorem dL_law_392 : decode cL_law 392 = .ok (.iaload, 1) := by decide +kernel
theorem dL_law_393 : decode cL_law 393 = .ok (.invokevirtual 47, 3) := by decide +kernel
theorem dL_law_396 : decode cL_law 396 = .ok (.if_icmp .eq 1039, 3) := by decide +kernel
theorem dL_law_399 : decode cL_law 399 = .ok (.iconst 0, 1) := by decide +kernel
theorem dL_law_400 : decode cL_law 400 = .ok (.ireturn, 1) := by decide +kernel
theorem dL_law_401 : decode cL_law 401 = .ok (.aload_n 1, 1) := by decide +kernel
theorem dL_law_402 : decode cL_law 402 = .ok (.aload_n 0, 1) := by decide +kernel
theorem dL_law_403 : decode cL_law 403 = .ok (.iload 4, 2) := by decide +kernel
theorem dL_law_405 : decode cL_law 405 = .ok (.iconst 1, 1) := by decide +kernel
theorem dL_law_406 : decode cL_law 406 = .ok (.iadd, 1) := by decide +kernel
theorem dL_law_407 : decode cL_law 407 = .ok (.iaload, 1) := by decide +kernel
theorem dL_law_408 : decode cL_law 408 = .ok (.aload_n 0, 1) := by decide +kernel
theorem dL_law_409 : decode cL_law 409 = .ok (.iload 4, 2) := by decide +kernel
theorem dL_law_411 : decode cL_law 411 = .ok (.iconst 2, 1) := by decide +kernel
theorem dL_law_412 : decode cL_law 412 = .ok (.iadd, 1) := by decide +kernel
theorem dL_law_413 : decode cL_law 413 = .ok (.iaload, 1) := by decide +kernel
theorem dL_law_414 : decode cL_law 414 = .ok (.invokevirtual 48, 3) := by decide +kernel
theorem dL_law_417 : decode cL_law 417 = .ok (.aload_n 2, 1) := by decide +kernel
theorem dL_law_418 : decode cL_law 418 = .ok (.aload_n 0, 1) := by decide +kernel
theorem dL_law_419 : decode cL_law 419 = .ok (.iload 4, 2) := by decide +kernel
theorem dL_law_421 : decode cL_law 421 = .ok (.iconst 1, 1) := by decide +kernel
theorem dL_law_422 : decode cL_law 422 = .ok (.iadd, 1) := by decide +kernel
theorem dL_law_423 : decode cL_law 423 = .ok (.iaload, 1) := by decide +kernel
theorem dL_law_424 : decode cL_law 424 = .ok (.aload_n 0, 1) := by decide +kernel
theorem dL_law_425 : decode cL_law 425 = .ok (.iload 4, 2) := by decide +kernel
theorem dL_law_427 : decode cL_law 427 = .ok (.iconst 2, 1) := by decide +kernel
theorem dL_law_428 : decode cL_law 428 = .ok (.iadd, 1) := by decide +kernel
theorem dL_law_429 : decode cL_law 429 = .ok (.iaload, 1) := by decide +kernel
theorem dL_law_430 : decode cL_law 430 = .ok (.invokevirtual 51, 3) := by decide +kernel
theorem dL_law_433 : decode cL_law 433 = .ok (.if_icmp .eq 1002, 3) := by decide +kernel
theorem dL_law_436 : decode cL_law 436 = .ok (.iconst 0, 1) := by decide +kernel
theorem dL_law_437 : decode cL_law 437 = .ok (.ireturn, 1) := by decide +kernel
theorem dL_law_438 : decode cL_law 438 = .ok (.aload_n 1, 1) := by decide +kernel
theorem dL_law_439 : decode cL_law 439 = .ok (.aload_n 0, 1) := by decide +kernel
theorem dL_law_440 : decode cL_law 440 = .ok (.iload 4, 2) := by decide +kernel
theorem dL_law_442 : decode cL_law 442 = .ok (.iconst 1, 1) := by decide +kernel
theorem dL_law_443 : decode cL_law 443 = .ok (.iadd, 1) := by decide +kernel
theorem dL_law_444 : decode cL_law 444 = .ok (.iaload, 1) := by decide +kernel
theorem dL_law_445 : decode cL_law 445 = .ok (.aload_n 0, 1) := by decide +kernel
theorem dL_law_446 : decode cL_law 446 = .ok (.iload 4, 2) := by decide +kernel
theorem dL_law_448 : decode cL_law 448 = .ok (.iconst 2, 1) := by decide +kernel
theorem dL_law_449 : decode cL_law 449 = .ok (.iadd, 1) := by decide +kernel
theorem dL_law_450 : decode cL_law 450 = .ok (.iaload, 1) := by decide +kernel
theorem dL_law_451 : decode cL_law 451 = .ok (.aload_n 0, 1) := by decide +kernel
theorem dL_law_452 : decode cL_law 452 = .ok (.iload 4, 2) := by decide +kernel
theorem dL_law_454 : decode cL_law 454 = .ok (.iconst 3, 1) := by decide +kernel
theorem dL_law_455 : decode cL_law 455 = .ok (.iadd, 1) := by decide +kernel
theorem dL_law_456 : decode cL_law 456 = .ok (.iaload, 1) := by decide +kernel
theorem dL_law_457 : decode cL_law 457 = .ok (.aload_n 3, 1) := by decide +kernel
theorem dL_law_458 : decode cL_law 458 = .ok (.invokestatic 52, 3) := by decide +kernel
theorem dL_law_461 : decode cL_law 461 = .ok (.istore 5, 2) := by decide +kernel
theorem dL_law_463 : decode cL_law 463 = .ok (.aload_n 2, 1) := by decide +kernel
theorem dL_law_464 : decode cL_law 464 = .ok (.aload_n 0, 1) := by decide +kernel
theorem dL_law_465 : decode cL_law 465 = .ok (.iload 4, 2) := by decide +kernel
theorem dL_law_467 : decode cL_law 467 = .ok (.iconst 1, 1) := by decide +kernel
theorem dL_law_468 : decode cL_law 468 = .ok (.iadd, 1) := by decide +kernel
theorem dL_law_469 : decode cL_law 469 = .ok (.iaload, 1) := by decide +kernel
theorem dL_law_470 : decode cL_law 470 = .ok (.aload_n 0, 1) := by decide +kernel
theorem dL_law_471 : decode cL_law 471 = .ok (.iload 4, 2) := by decide +kernel
theorem dL_law_473 : decode cL_law 473 = .ok (.iconst 2, 1) := by decide +kernel
theorem dL_law_474 : decode cL_law 474 = .ok (.iadd, 1) := by decide +kernel
theorem dL_law_475 : decode cL_law 475 = .ok (.iaload, 1) := by decide +kernel
theorem dL_law_476 : decode cL_law 476 = .ok (.aload_n 0, 1) := by decide +kernel
theorem dL_law_477 : decode cL_law 477 = .ok (.iload 4, 2) := by decide +kernel
theorem dL_law_479 : decode cL_law 479 = .ok (.iconst 3, 1) := by decide +kernel
theorem dL_law_480 : decode cL_law 480 = .ok (.iadd, 1) := by decide +kernel
theorem dL_law_481 : decode cL_law 481 = .ok (.iaload, 1) := by decide +kernel
theorem dL_law_482 : decode cL_law 482 = .ok (.invokevirtual 57, 3) := by decide +kernel
theorem dL_law_485 : decode cL_law 485 = .ok (.istore 6, 2) := by decide +kernel
theorem dL_law_487 : decode cL_law 487 = .ok (.aload_n 2, 1) := by decide +kernel
theorem dL_law_488 : decode cL_law 488 = .ok (.invokevirtual 58, 3) := by decide +kernel
theorem dL_law_491 : decode cL_law 491 = .ok (.iload 5, 2) := by decide +kernel
theorem dL_law_493 : decode cL_law 493 = .ok (.if_icmp .eq 5, 3) := by decide +kernel
theorem dL_law_496 : decode cL_law 496 = .ok (.iconst 0, 1) := by decide +kernel
theorem dL_law_497 : decode cL_law 497 = .ok (.ireturn, 1) := by decide +kernel
theorem dL_law_498 : decode cL_law 498 = .ok (.iload 5, 2) := by decide +kernel
theorem dL_law_500 : decode cL_law 500 = .ok (.ifCond .ne 15, 3) := by decide +kernel
theorem dL_law_503 : decode cL_law 503 = .ok (.aload_n 3, 1) := by decide +kernel
theorem dL_law_504 : decode cL_law 504 = .ok (.iconst 0, 1) := by decide +kernel
theorem dL_law_505 : decode cL_law 505 = .ok (.laload, 1) := by decide +kernel
theorem dL_law_506 : decode cL_law 506 = .ok (.iload 6, 2) := by decide +kernel
theorem dL_law_508 : decode cL_law 508 = .ok (.i2l, 1) := by decide +kernel
theorem dL_law_509 : decode cL_law 509 = .ok (.lcmp, 1) := by decide +kernel
theorem dL_law_510 : decode cL_law 510 = .ok (.ifCond .eq 5, 3) := by decide +kernel
theorem dL_law_513 : decode cL_law 513 = .ok (.iconst 0, 1) := by decide +kernel
theorem dL_law_514 : decode cL_law 514 = .ok (.ireturn, 1) := by decide +kernel
theorem dL_law_515 : decode cL_law 515 = .ok (.goto 920, 3) := by decide +kernel
theorem dL_law_518 : decode cL_law 518 = .ok (.aload_n 1, 1) := by decide +kernel
theorem dL_law_519 : decode cL_law 519 = .ok (.aload_n 0, 1) := by decide +kernel
theorem dL_law_520 : decode cL_law 520 = .ok (.iload 4, 2) := by decide +kernel
theorem dL_law_522 : decode cL_law 522 = .ok (.iconst 1, 1) := by decide +kernel
theorem dL_law_523 : decode cL_law 523 = .ok (.iadd, 1) := by decide +kernel
theorem dL_law_524 : decode cL_law 524 = .ok (.iaload, 1) := by decide +kernel
theorem dL_law_525 : decode cL_law 525 = .ok (.aload_n 0, 1) := by decide +kernel
theorem dL_law_526 : decode cL_law 526 = .ok (.iload 4, 2) := by decide +kernel
theorem dL_law_528 : decode cL_law 528 = .ok (.iconst 2, 1) := by decide +kernel
theorem dL_law_529 : decode cL_law 529 = .ok (.iadd, 1) := by decide +kernel
theorem dL_law_530 : decode cL_law 530 = .ok (.iaload, 1) := by decide +kernel
theorem dL_law_531 : decode cL_law 531 = .ok (.invokevirtual 62, 3) := by decide +kernel
theorem dL_law_534 : decode cL_law 534 = .ok (.aload_n 2, 1) := by decide +kernel
theorem dL_law_535 : decode cL_law 535 = .ok (.aload_n 0, 1) := by decide +kernel
theorem dL_law_536 : decode cL_law 536 = .ok (.iload 4, 2) := by decide +kernel
theorem dL_law_538 : decode cL_law 538 = .ok (.iconst 1, 1) := by decide +kernel
theorem dL_law_539 : decode cL_law 539 = .ok (.iadd, 1) := by decide +kernel
theorem dL_law_540 : decode cL_law 540 = .ok (.iaload, 1) := by decide +kernel
theorem dL_law_541 : decode cL_law 541 = .ok (.aload_n 0, 1) := by decide +kernel
theorem dL_law_542 : decode cL_law 542 = .ok (.iload 4, 2) := by decide +kernel
theorem dL_law_544 : decode cL_law 544 = .ok (.iconst 2, 1) := by decide +kernel
theorem dL_law_545 : decode cL_law 545 = .ok (.iadd, 1) := by decide +kernel
theorem dL_law_546 : decode cL_law 546 = .ok (.iaload, 1) := by decide +kernel
theorem dL_law_547 : decode cL_law 547 = .ok (.invokevirtual 65, 3) := by decide +kernel
theorem dL_law_550 : decode cL_law 550 = .ok (.if_icmp .eq 885, 3) := by decide +kernel
theorem dL_law_553 : decode cL_law 553 = .ok (.iconst 0, 1) := by decide +kernel
theorem dL_law_554 : decode cL_law 554 = .ok (.ireturn, 1) := by decide +kernel
theorem dL_law_555 : decode cL_law 555 = .ok (.aload_n 1, 1) := by decide +kernel
theorem dL_law_556 : decode cL_law 556 = .ok (.aload_n 0, 1) := by decide +kernel
theorem dL_law_557 : decode cL_law 557 = .ok (.iload 4, 2) := by decide +kernel
theorem dL_law_559 : decode cL_law 559 = .ok (.iconst 1, 1) := by decide +kernel
theorem dL_law_560 : decode cL_law 560 = .ok (.iadd, 1) := by decide +kernel
theorem dL_law_561 : decode cL_law 561 = .ok (.iaload, 1) := by decide +kernel
theorem dL_law_562 : decode cL_law 562 = .ok (.aload_n 0, 1) := by decide +kernel
theorem dL_law_563 : decode cL_law 563 = .ok (.iload 4, 2) := by decide +kernel
theorem dL_law_565 : decode cL_law 565 = .ok (.iconst 2, 1) := by decide +kernel
theorem dL_law_566 : decode cL_law 566 = .ok (.iadd, 1) := by decide +kernel
theorem dL_law_567 : decode cL_law 567 = .ok (.iaload, 1) := by decide +kernel
theorem dL_law_568 : decode cL_law 568 = .ok (.invokevirtual 66, 3) := by decide +kernel
theorem dL_law_571 : decode cL_law 571 = .ok (.aload_n 2, 1) := by decide +kernel
theorem dL_law_572 : decode cL_law 572 = .ok (.aload_n 0, 1) := by decide +kernel
theorem dL_law_573 : decode cL_law 573 = .ok (.iload 4, 2) := by decide +kernel
theorem dL_law_575 : decode cL_law 575 = .ok (.iconst 1, 1) := by decide +kernel
theorem dL_law_576 : decode cL_law 576 = .ok (.iadd, 1) := by decide +kernel
theorem dL_law_577 : decode cL_law 577 = .ok (.iaload, 1) := by decide +kernel
theorem dL_law_578 : decode cL_law 578 = .ok (.aload_n 0, 1) := by decide +kernel
theorem dL_law_579 : decode cL_law 579 = .ok (.iload 4, 2) := by decide +kernel
theorem dL_law_581 : decode cL_law 581 = .ok (.iconst 2, 1) := by decide +kernel
theorem dL_law_582 : decode cL_law 582 = .ok (.iadd, 1) := by decide +kernel
theorem dL_law_583 : decode cL_law 583 = .ok (.iaload, 1) := by decide +kernel
theorem dL_law_584 : decode cL_law 584 = .ok (.invokevirtual 69, 3) := by decide +kernel
theorem dL_law_587 : decode cL_law 587 = .ok (.if_icmp .eq 848, 3) := by decide +kernel
theorem dL_law_590 : decode cL_law 590 = .ok (.iconst 0, 1) := by decide +kernel
theorem dL_law_591 : decode cL_law 591 = .ok (.ireturn, 1) := by decide +kernel
theorem dL_law_592 : decode cL_law 592 = .ok (.aload_n 1, 1) := by decide +kernel
theorem dL_law_593 : decode cL_law 593 = .ok (.aload_n 0, 1) := by decide +kernel
theorem dL_law_594 : decode cL_law 594 = .ok (.iload 4, 2) := by decide +kernel
theorem dL_law_596 : decode cL_law 596 = .ok (.iconst 1, 1) := by decide +kernel
theorem dL_law_597 : decode cL_law 597 = .ok (.iadd, 1) := by decide +kernel
theorem dL_law_598 : decode cL_law 598 = .ok (.iaload, 1) := by decide +kernel
theorem dL_law_599 : decode cL_law 599 = .ok (.aload_n 0, 1) := by decide +kernel
theorem dL_law_600 : decode cL_law 600 = .ok (.iload 4, 2) := by decide +kernel
theorem dL_law_602 : decode cL_law 602 = .ok (.iconst 2, 1) := by decide +kernel
theorem dL_law_603 : decode cL_law 603 = .ok (.iadd, 1) := by decide +kernel
theorem dL_law_604 : decode cL_law 604 = .ok (.iaload, 1) := by decide +kernel
theorem dL_law_605 : decode cL_law 605 = .ok (.aload_n 0, 1) := by decide +kernel
theorem dL_law_606 : decode cL_law 606 = .ok (.iload 4, 2) := by decide +kernel
theorem dL_law_608 : decode cL_law 608 = .ok (.iconst 3, 1) := by decide +kernel
theorem dL_law_609 : decode cL_law 609 = .ok (.iadd, 1) := by decide +kernel
theorem dL_law_610 : decode cL_law 610 = .ok (.iaload, 1) := by decide +kernel
theorem dL_law_611 : decode cL_law 611 = .ok (.aload_n 0, 1) := by decide +kernel
theorem dL_law_612 : decode cL_law 612 = .ok (.iload 4, 2) := by decide +kernel
theorem dL_law_614 : decode cL_law 614 = .ok (.iconst 4, 1) := by decide +kernel
theorem dL_law_615 : decode cL_law 615 = .ok (.iadd, 1) := by decide +kernel
theorem dL_law_616 : decode cL_law 616 = .ok (.iaload, 1) := by decide +kernel
theorem dL_law_617 : decode cL_law 617 = .ok (.ifCond .eq 7, 3) := by decide +kernel
theorem dL_law_620 : decode cL_law 620 = .ok (.iconst 1, 1) := by decide +kernel
theorem dL_law_621 : decode cL_law 621 = .ok (.goto 4, 3) := by decide +kernel
theorem dL_law_624 : decode cL_law 624 = .ok (.iconst 0, 1) := by decide +kernel
theorem dL_law_625 : decode cL_law 625 = .ok (.invokevirtual 70, 3) := by decide +kernel
theorem dL_law_628 : decode cL_law 628 = .ok (.aload_n 2, 1) := by decide +kernel
theorem dL_law_629 : decode cL_law 629 = .ok (.aload_n 0, 1) := by decide +kernel
theorem dL_law_630 : decode cL_law 630 = .ok (.iload 4, 2) := by decide +kernel
theorem dL_law_632 : decode cL_law 632 = .ok (.iconst 1, 1) := by decide +kernel
theorem dL_law_633 : decode cL_law 633 = .ok (.iadd, 1) := by decide +kernel
theorem dL_law_634 : decode cL_law 634 = .ok (.iaload, 1) := by decide +kernel
theorem dL_law_635 : decode cL_law 635 = .ok (.aload_n 0, 1) := by decide +kernel
theorem dL_law_636 : decode cL_law 636 = .ok (.iload 4, 2) := by decide +kernel
theorem dL_law_638 : decode cL_law 638 = .ok (.iconst 2, 1) := by decide +kernel
theorem dL_law_639 : decode cL_law 639 = .ok (.iadd, 1) := by decide +kernel
theorem dL_law_640 : decode cL_law 640 = .ok (.iaload, 1) := by decide +kernel
theorem dL_law_641 : decode cL_law 641 = .ok (.aload_n 0, 1) := by decide +kernel
theorem dL_law_642 : decode cL_law 642 = .ok (.iload 4, 2) := by decide +kernel
theorem dL_law_644 : decode cL_law 644 = .ok (.iconst 3, 1) := by decide +kernel
theorem dL_law_645 : decode cL_law 645 = .ok (.iadd, 1) := by decide +kernel
theorem dL_law_646 : decode cL_law 646 = .ok (.iaload, 1) := by decide +kernel
theorem dL_law_647 : decode cL_law 647 = .ok (.aload_n 0, 1) := by decide +kernel
theorem dL_law_648 : decode cL_law 648 = .ok (.iload 4, 2) := by decide +kernel
theorem dL_law_650 : decode cL_law 650 = .ok (.iconst 4, 1) := by decide +kernel
theorem dL_law_651 : decode cL_law 651 = .ok (.iadd, 1) := by decide +kernel
theorem dL_law_652 : decode cL_law 652 = .ok (.iaload, 1) := by decide +kernel
theorem dL_law_653 : decode cL_law 653 = .ok (.ifCond .eq 7, 3) := by decide +kernel
theorem dL_law_656 : decode cL_law 656 = .ok (.iconst 1, 1) := by decide +kernel
theorem dL_law_657 : decode cL_law 657 = .ok (.goto 4, 3) := by decide +kernel
theorem dL_law_660 : decode cL_law 660 = .ok (.iconst 0, 1) := by decide +kernel
theorem dL_law_661 : decode cL_law 661 = .ok (.invokevirtual 74, 3) := by decide +kernel
theorem dL_law_664 : decode cL_law 664 = .ok (.if_icmp .eq 771, 3) := by decide +kernel
theorem dL_law_667 : decode cL_law 667 = .ok (.iconst 0, 1) := by decide +kernel
theorem dL_law_668 : decode cL_law 668 = .ok (.ireturn, 1) := by decide +kernel
theorem dL_law_669 : decode cL_law 669 = .ok (.aload_n 1, 1) := by decide +kernel
theorem dL_law_670 : decode cL_law 670 = .ok (.aload_n 0, 1) := by decide +kernel
theorem dL_law_671 : decode cL_law 671 = .ok (.iload 4, 2) := by decide +kernel
theorem dL_law_673 : decode cL_law 673 = .ok (.iconst 1, 1) := by decide +kernel
theorem dL_law_674 : decode cL_law 674 = .ok (.iadd, 1) := by decide +kernel
theorem dL_law_675 : decode cL_law 675 = .ok (.iaload, 1) := by decide +kernel
theorem dL_law_676 : decode cL_law 676 = .ok (.invokevirtual 75, 3) := by decide +kernel
theorem dL_law_679 : decode cL_law 679 = .ok (.aload_n 2, 1) := by decide +kernel
theorem dL_law_680 : decode cL_law 680 = .ok (.aload_n 0, 1) := by decide +kernel
theorem dL_law_681 : decode cL_law 681 = .ok (.iload 4, 2) := by decide +kernel
theorem dL_law_683 : decode cL_law 683 = .ok (.iconst 1, 1) := by decide +kernel
theorem dL_law_684 : decode cL_law 684 = .ok (.iadd, 1) := by decide +kernel
theorem dL_law_685 : decode cL_law 685 = .ok (.iaload, 1) := by decide +kernel
theorem dL_law_686 : decode cL_law 686 = .ok (.invokevirtual 78, 3) := by decide +kernel
theorem dL_law_689 : decode cL_law 689 = .ok (.if_icmp .eq 746, 3) := by decide +kernel
theorem dL_law_692 : decode cL_law 692 = .ok (.iconst 0, 1) := by decide +kernel
theorem dL_law_693 : decode cL_law 693 = .ok (.ireturn, 1) := by decide +kernel
theorem dL_law_694 : decode cL_law 694 = .ok (.aload_n 1, 1) := by decide +kernel
theorem dL_law_695 : decode cL_law 695 = .ok (.aload_n 0, 1) := by decide +kernel
theorem dL_law_696 : decode cL_law 696 = .ok (.iload 4, 2) := by decide +kernel
theorem dL_law_698 : decode cL_law 698 = .ok (.iconst 1, 1) := by decide +kernel
theorem dL_law_699 : decode cL_law 699 = .ok (.iadd, 1) := by decide +kernel
theorem dL_law_700 : decode cL_law 700 = .ok (.iaload, 1) := by decide +kernel
theorem dL_law_701 : decode cL_law 701 = .ok (.invokevirtual 79, 3) := by decide +kernel
theorem dL_law_704 : decode cL_law 704 = .ok (.aload_n 2, 1) := by decide +kernel
theorem dL_law_705 : decode cL_law 705 = .ok (.aload_n 0, 1) := by decide +kernel
theorem dL_law_706 : decode cL_law 706 = .ok (.iload 4, 2) := by decide +kernel
theorem dL_law_708 : decode cL_law 708 = .ok (.iconst 1, 1) := by decide +kernel
theorem dL_law_709 : decode cL_law 709 = .ok (.iadd, 1) := by decide +kernel
theorem dL_law_710 : decode cL_law 710 = .ok (.iaload, 1) := by decide +kernel
theorem dL_law_711 : decode cL_law 711 = .ok (.invokevirtual 82, 3) := by decide +kernel
theorem dL_law_714 : decode cL_law 714 = .ok (.if_icmp .eq 721, 3) := by decide +kernel
theorem dL_law_717 : decode cL_law 717 = .ok (.iconst 0, 1) := by decide +kernel
theorem dL_law_718 : decode cL_law 718 = .ok (.ireturn, 1) := by decide +kernel
theorem dL_law_719 : decode cL_law 719 = .ok (.aload_n 1, 1) := by decide +kernel
theorem dL_law_720 : decode cL_law 720 = .ok (.aload_n 0, 1) := by decide +kernel
theorem dL_law_721 : decode cL_law 721 = .ok (.iload 4, 2) := by decide +kernel
theorem dL_law_723 : decode cL_law 723 = .ok (.iconst 1, 1) := by decide +kernel
theorem dL_law_724 : decode cL_law 724 = .ok (.iadd, 1) := by decide +kernel
theorem dL_law_725 : decode cL_law 725 = .ok (.iaload, 1) := by decide +kernel
theorem dL_law_726 : decode cL_law 726 = .ok (.invokevirtual 83, 3) := by decide +kernel
theorem dL_law_729 : decode cL_law 729 = .ok (.aload_n 2, 1) := by decide +kernel
theorem dL_law_730 : decode cL_law 730 = .ok (.aload_n 0, 1) := by decide +kernel
theorem dL_law_731 : decode cL_law 731 = .ok (.iload 4, 2) := by decide +kernel
theorem dL_law_733 : decode cL_law 733 = .ok (.iconst 1, 1) := by decide +kernel
theorem dL_law_734 : decode cL_law 734 = .ok (.iadd, 1) := by decide +kernel
theorem dL_law_735 : decode cL_law 735 = .ok (.iaload, 1) := by decide +kernel
theorem dL_law_736 : decode cL_law 736 = .ok (.invokevirtual 86, 3) := by decide +kernel
theorem dL_law_739 : decode cL_law 739 = .ok (.if_icmp .eq 696, 3) := by decide +kernel
theorem dL_law_742 : decode cL_law 742 = .ok (.iconst 0, 1) := by decide +kernel
theorem dL_law_743 : decode cL_law 743 = .ok (.ireturn, 1) := by decide +kernel
theorem dL_law_744 : decode cL_law 744 = .ok (.aload_n 1, 1) := by decide +kernel
theorem dL_law_745 : decode cL_law 745 = .ok (.aload_n 0, 1) := by decide +kernel
theorem dL_law_746 : decode cL_law 746 = .ok (.iload 4, 2) := by decide +kernel
theorem dL_law_748 : decode cL_law 748 = .ok (.iconst 1, 1) := by decide +kernel
theorem dL_law_749 : decode cL_law 749 = .ok (.iadd, 1) := by decide +kernel
theorem dL_law_750 : decode cL_law 750 = .ok (.iaload, 1) := by decide +kernel
theorem dL_law_751 : decode cL_law 751 = .ok (.invokevirtual 87, 3) := by decide +kernel
theorem dL_law_754 : decode cL_law 754 = .ok (.aload_n 2, 1) := by decide +kernel
theorem dL_law_755 : decode cL_law 755 = .ok (.aload_n 0, 1) := by decide +kernel
theorem dL_law_756 : decode cL_law 756 = .ok (.iload 4, 2) := by decide +kernel
theorem dL_law_758 : decode cL_law 758 = .ok (.iconst 1, 1) := by decide +kernel
theorem dL_law_759 : decode cL_law 759 = .ok (.iadd, 1) := by decide +kernel
theorem dL_law_760 : decode cL_law 760 = .ok (.iaload, 1) := by decide +kernel
theorem dL_law_761 : decode cL_law 761 = .ok (.invokevirtual 90, 3) := by decide +kernel
theorem dL_law_764 : decode cL_law 764 = .ok (.if_icmp .eq 671, 3) := by decide +kernel
theorem dL_law_767 : decode cL_law 767 = .ok (.iconst 0, 1) := by decide +kernel
theorem dL_law_768 : decode cL_law 768 = .ok (.ireturn, 1) := by decide +kernel
theorem dL_law_769 : decode cL_law 769 = .ok (.aload_n 1, 1) := by decide +kernel
theorem dL_law_770 : decode cL_law 770 = .ok (.aload_n 0, 1) := by decide +kernel
theorem dL_law_771 : decode cL_law 771 = .ok (.iload 4, 2) := by decide +kernel
theorem dL_law_773 : decode cL_law 773 = .ok (.iconst 1, 1) := by decide +kernel
theorem dL_law_774 : decode cL_law 774 = .ok (.iadd, 1) := by decide +kernel
theorem dL_law_775 : decode cL_law 775 = .ok (.iaload, 1) := by decide +kernel
theorem dL_law_776 : decode cL_law 776 = .ok (.aload_n 0, 1) := by decide +kernel
theorem dL_law_777 : decode cL_law 777 = .ok (.iload 4, 2) := by decide +kernel
theorem dL_law_779 : decode cL_law 779 = .ok (.iconst 2, 1) := by decide +kernel
theorem dL_law_780 : decode cL_law 780 = .ok (.iadd, 1) := by decide +kernel
theorem dL_law_781 : decode cL_law 781 = .ok (.iaload, 1) := by decide +kernel
theorem dL_law_782 : decode cL_law 782 = .ok (.invokevirtual 91, 3) := by decide +kernel
theorem dL_law_785 : decode cL_law 785 = .ok (.aload_n 2, 1) := by decide +kernel
theorem dL_law_786 : decode cL_law 786 = .ok (.aload_n 0, 1) := by decide +kernel
theorem dL_law_787 : decode cL_law 787 = .ok (.iload 4, 2) := by decide +kernel
theorem dL_law_789 : decode cL_law 789 = .ok (.iconst 1, 1) := by decide +kernel
theorem dL_law_790 : decode cL_law 790 = .ok (.iadd, 1) := by decide +kernel
theorem dL_law_791 : decode cL_law 791 = .ok (.iaload, 1) := by decide +kernel
theorem dL_law_792 : decode cL_law 792 = .ok (.aload_n 0, 1) := by decide +kernel
theorem dL_law_793 : decode cL_law 793 = .ok (.iload 4, 2) := by decide +kernel
theorem dL_law_795 : decode cL_law 795 = .ok (.iconst 2, 1) := by decide +kernel
theorem dL_law_796 : decode cL_law 796 = .ok (.iadd, 1) := by decide +kernel
theorem dL_law_797 : decode cL_law 797 = .ok (.iaload, 1) := by decide +kernel
theorem dL_law_798 : decode cL_law 798 = .ok (.invokevirtual 94, 3) := by decide +kernel
theorem dL_law_801 : decode cL_law 801 = .ok (.if_icmp .eq 634, 3) := by decide +kernel
theorem dL_law_804 : decode cL_law 804 = .ok (.iconst 0, 1) := by decide +kernel
theorem dL_law_805 : decode cL_law 805 = .ok (.ireturn, 1) := by decide +kernel
theorem dL_law_806 : decode cL_law 806 = .ok (.aload_n 1, 1) := by decide +kernel
theorem dL_law_807 : decode cL_law 807 = .ok (.invokevirtual 95, 3) := by decide +kernel
theorem dL_law_810 : decode cL_law 810 = .ok (.aload_n 2, 1) := by decide +kernel
theorem dL_law_811 : decode cL_law 811 = .ok (.invokevirtual 98, 3) := by decide +kernel
theorem dL_law_814 : decode cL_law 814 = .ok (.if_icmp .eq 621, 3) := by decide +kernel
theorem dL_law_817 : decode cL_law 817 = .ok (.iconst 0, 1) := by decide +kernel
theorem dL_law_818 : decode cL_law 818 = .ok (.ireturn, 1) := by decide +kernel
theorem dL_law_819 : decode cL_law 819 = .ok (.aload_n 1, 1) := by decide +kernel
theorem dL_law_820 : decode cL_law 820 = .ok (.aload_n 0, 1) := by decide +kernel
theorem dL_law_821 : decode cL_law 821 = .ok (.iload 4, 2) := by decide +kernel
theorem dL_law_823 : decode cL_law 823 = .ok (.iconst 1, 1) := by decide +kernel
theorem dL_law_824 : decode cL_law 824 = .ok (.iadd, 1) := by decide +kernel
theorem dL_law_825 : decode cL_law 825 = .ok (.iaload, 1) := by decide +kernel
theorem dL_law_826 : decode cL_law 826 = .ok (.aload_n 0, 1) := by decide +kernel
theorem dL_law_827 : decode cL_law 827 = .ok (.iload 4, 2) := by decide +kernel
theorem dL_law_829 : decode cL_law 829 = .ok (.iconst 2, 1) := by decide +kernel
theorem dL_law_830 : decode cL_law 830 = .ok (.iadd, 1) := by decide +kernel
theorem dL_law_831 : decode cL_law 831 = .ok (.iaload, 1) := by decide +kernel
theorem dL_law_832 : decode cL_law 832 = .ok (.invokevirtual 99, 3) := by decide +kernel
theorem dL_law_835 : decode cL_law 835 = .ok (.aload_n 2, 1) := by decide +kernel
theorem dL_law_836 : decode cL_law 836 = .ok (.aload_n 0, 1) := by decide +kernel
theorem dL_law_837 : decode cL_law 837 = .ok (.iload 4, 2) := by decide +kernel
theorem dL_law_839 : decode cL_law 839 = .ok (.iconst 1, 1) := by decide +kernel
theorem dL_law_840 : decode cL_law 840 = .ok (.iadd, 1) := by decide +kernel
theorem dL_law_841 : decode cL_law 841 = .ok (.iaload, 1) := by decide +kernel
theorem dL_law_842 : decode cL_law 842 = .ok (.aload_n 0, 1) := by decide +kernel
theorem dL_law_843 : decode cL_law 843 = .ok (.iload 4, 2) := by decide +kernel
theorem dL_law_845 : decode cL_law 845 = .ok (.iconst 2, 1) := by decide +kernel
theorem dL_law_846 : decode cL_law 846 = .ok (.iadd, 1) := by decide +kernel
theorem dL_law_847 : decode cL_law 847 = .ok (.iaload, 1) := by decide +kernel
theorem dL_law_848 : decode cL_law 848 = .ok (.invokevirtual 102, 3) := by decide +kernel
theorem dL_law_851 : decode cL_law 851 = .ok (.if_icmp .eq 584, 3) := by decide +kernel
theorem dL_law_854 : decode cL_law 854 = .ok (.iconst 0, 1) := by decide +kernel
theorem dL_law_855 : decode cL_law 855 = .ok (.ireturn, 1) := by decide +kernel
theorem dL_law_856 : decode cL_law 856 = .ok (.aload_n 1, 1) := by decide +kernel
theorem dL_law_857 : decode cL_law 857 = .ok (.aload_n 0, 1) := by decide +kernel
theorem dL_law_858 : decode cL_law 858 = .ok (.iload 4, 2) := by decide +kernel
theorem dL_law_860 : decode cL_law 860 = .ok (.iconst 1, 1) := by decide +kernel
theorem dL_law_861 : decode cL_law 861 = .ok (.iadd, 1) := by decide +kernel
theorem dL_law_862 : decode cL_law 862 = .ok (.iaload, 1) := by decide +kernel
theorem dL_law_863 : decode cL_law 863 = .ok (.aload_n 0, 1) := by decide +kernel
theorem dL_law_864 : decode cL_law 864 = .ok (.iload 4, 2) := by decide +kernel
theorem dL_law_866 : decode cL_law 866 = .ok (.iconst 2, 1) := by decide +kernel
theorem dL_law_867 : decode cL_law 867 = .ok (.iadd, 1) := by decide +kernel
theorem dL_law_868 : decode cL_law 868 = .ok (.iaload, 1) := by decide +kernel
theorem dL_law_869 : decode cL_law 869 = .ok (.invokevirtual 103, 3) := by decide +kernel
theorem dL_law_872 : decode cL_law 872 = .ok (.aload_n 2, 1) := by decide +kernel
theorem dL_law_873 : decode cL_law 873 = .ok (.aload_n 0, 1) := by decide +kernel
theorem dL_law_874 : decode cL_law 874 = .ok (.iload 4, 2) := by decide +kernel
theorem dL_law_876 : decode cL_law 876 = .ok (.iconst 1, 1) := by decide +kernel
theorem dL_law_877 : decode cL_law 877 = .ok (.iadd, 1) := by decide +kernel
theorem dL_law_878 : decode cL_law 878 = .ok (.iaload, 1) := by decide +kernel
theorem dL_law_879 : decode cL_law 879 = .ok (.aload_n 0, 1) := by decide +kernel
theorem dL_law_880 : decode cL_law 880 = .ok (.iload 4, 2) := by decide +kernel
theorem dL_law_882 : decode cL_law 882 = .ok (.iconst 2, 1) := by decide +kernel
theorem dL_law_883 : decode cL_law 883 = .ok (.iadd, 1) := by decide +kernel
theorem dL_law_884 : decode cL_law 884 = .ok (.iaload, 1) := by decide +kernel
theorem dL_law_885 : decode cL_law 885 = .ok (.invokevirtual 106, 3) := by decide +kernel
theorem dL_law_888 : decode cL_law 888 = .ok (.if_icmp .eq 547, 3) := by decide +kernel
theorem dL_law_891 : decode cL_law 891 = .ok (.iconst 0, 1) := by decide +kernel
theorem dL_law_892 : decode cL_law 892 = .ok (.ireturn, 1) := by decide +kernel
theorem dL_law_893 : decode cL_law 893 = .ok (.aload_n 1, 1) := by decide +kernel
theorem dL_law_894 : decode cL_law 894 = .ok (.aload_n 0, 1) := by decide +kernel
theorem dL_law_895 : decode cL_law 895 = .ok (.iload 4, 2) := by decide +kernel
theorem dL_law_897 : decode cL_law 897 = .ok (.iconst 1, 1) := by decide +kernel
theorem dL_law_898 : decode cL_law 898 = .ok (.iadd, 1) := by decide +kernel
theorem dL_law_899 : decode cL_law 899 = .ok (.iaload, 1) := by decide +kernel
theorem dL_law_900 : decode cL_law 900 = .ok (.aload_n 0, 1) := by decide +kernel
theorem dL_law_901 : decode cL_law 901 = .ok (.iload 4, 2) := by decide +kernel
theorem dL_law_903 : decode cL_law 903 = .ok (.iconst 2, 1) := by decide +kernel
theorem dL_law_904 : decode cL_law 904 = .ok (.iadd, 1) := by decide +kernel
theorem dL_law_905 : decode cL_law 905 = .ok (.iaload, 1) := by decide +kernel
theorem dL_law_906 : decode cL_law 906 = .ok (.invokevirtual 107, 3) := by decide +kernel
theorem dL_law_909 : decode cL_law 909 = .ok (.aload_n 2, 1) := by decide +kernel
theorem dL_law_910 : decode cL_law 910 = .ok (.aload_n 0, 1) := by decide +kernel
theorem dL_law_911 : decode cL_law 911 = .ok (.iload 4, 2) := by decide +kernel
theorem dL_law_913 : decode cL_law 913 = .ok (.iconst 1, 1) := by decide +kernel
theorem dL_law_914 : decode cL_law 914 = .ok (.iadd, 1) := by decide +kernel
theorem dL_law_915 : decode cL_law 915 = .ok (.iaload, 1) := by decide +kernel
theorem dL_law_916 : decode cL_law 916 = .ok (.aload_n 0, 1) := by decide +kernel
theorem dL_law_917 : decode cL_law 917 = .ok (.iload 4, 2) := by decide +kernel
theorem dL_law_919 : decode cL_law 919 = .ok (.iconst 2, 1) := by decide +kernel
theorem dL_law_920 : decode cL_law 920 = .ok (.iadd, 1) := by decide +kernel
theorem dL_law_921 : decode cL_law 921 = .ok (.iaload, 1) := by decide +kernel
theorem dL_law_922 : decode cL_law 922 = .ok (.invokevirtual 110, 3) := by decide +kernel
theorem dL_law_925 : decode cL_law 925 = .ok (.if_icmp .eq 510, 3) := by decide +kernel
theorem dL_law_928 : decode cL_law 928 = .ok (.iconst 0, 1) := by decide +kernel
theorem dL_law_929 : decode cL_law 929 = .ok (.ireturn, 1) := by decide +kernel
theorem dL_law_930 : decode cL_law 930 = .ok (.aload_n 1, 1) := by decide +kernel
theorem dL_law_931 : decode cL_law 931 = .ok (.aload_n 0, 1) := by decide +kernel
theorem dL_law_932 : decode cL_law 932 = .ok (.iload 4, 2) := by decide +kernel
theorem dL_law_934 : decode cL_law 934 = .ok (.iconst 1, 1) := by decide +kernel
theorem dL_law_935 : decode cL_law 935 = .ok (.iadd, 1) := by decide +kernel
theorem dL_law_936 : decode cL_law 936 = .ok (.iaload, 1) := by decide +kernel
theorem dL_law_937 : decode cL_law 937 = .ok (.aload_n 0, 1) := by decide +kernel
theorem dL_law_938 : decode cL_law 938 = .ok (.iload 4, 2) := by decide +kernel
theorem dL_law_940 : decode cL_law 940 = .ok (.iconst 2, 1) := by decide +kernel
theorem dL_law_941 : decode cL_law 941 = .ok (.iadd, 1) := by decide +kernel
theorem dL_law_942 : decode cL_law 942 = .ok (.iaload, 1) := by decide +kernel
theorem dL_law_943 : decode cL_law 943 = .ok (.invokevirtual 111, 3) := by decide +kernel
theorem dL_law_946 : decode cL_law 946 = .ok (.aload_n 2, 1) := by decide +kernel
theorem dL_law_947 : decode cL_law 947 = .ok (.aload_n 0, 1) := by decide +kernel
theorem dL_law_948 : decode cL_law 948 = .ok (.iload 4, 2) := by decide +kernel
theorem dL_law_950 : decode cL_law 950 = .ok (.iconst 1, 1) := by decide +kernel
theorem dL_law_951 : decode cL_law 951 = .ok (.iadd, 1) := by decide +kernel
theorem dL_law_952 : decode cL_law 952 = .ok (.iaload, 1) := by decide +kernel
theorem dL_law_953 : decode cL_law 953 = .ok (.aload_n 0, 1) := by decide +kernel
theorem dL_law_954 : decode cL_law 954 = .ok (.iload 4, 2) := by decide +kernel
theorem dL_law_956 : decode cL_law 956 = .ok (.iconst 2, 1) := by decide +kernel
theorem dL_law_957 : decode cL_law 957 = .ok (.iadd, 1) := by decide +kernel
theorem dL_law_958 : decode cL_law 958 = .ok (.iaload, 1) := by decide +kernel
theorem dL_law_959 : decode cL_law 959 = .ok (.invokevirtual 114, 3) := by decide +kernel
theorem dL_law_962 : decode cL_law 962 = .ok (.if_icmp .eq 473, 3) := by decide +kernel
theorem dL_law_965 : decode cL_law 965 = .ok (.iconst 0, 1) := by decide +kernel
theorem dL_law_966 : decode cL_law 966 = .ok (.ireturn, 1) := by decide +kernel
theorem dL_law_967 : decode cL_law 967 = .ok (.aload_n 1, 1) := by decide +kernel
theorem dL_law_968 : decode cL_law 968 = .ok (.aload_n 0, 1) := by decide +kernel
theorem dL_law_969 : decode cL_law 969 = .ok (.iload 4, 2) := by decide +kernel
theorem dL_law_971 : decode cL_law 971 = .ok (.iconst 1, 1) := by decide +kernel
theorem dL_law_972 : decode cL_law 972 = .ok (.iadd, 1) := by decide +kernel
theorem dL_law_973 : decode cL_law 973 = .ok (.iaload, 1) := by decide +kernel
theorem dL_law_974 : decode cL_law 974 = .ok (.invokevirtual 115, 3) := by decide +kernel
theorem dL_law_977 : decode cL_law 977 = .ok (.aload_n 2, 1) := by decide +kernel
theorem dL_law_978 : decode cL_law 978 = .ok (.aload_n 0, 1) := by decide +kernel
theorem dL_law_979 : decode cL_law 979 = .ok (.iload 4, 2) := by decide +kernel
theorem dL_law_981 : decode cL_law 981 = .ok (.iconst 1, 1) := by decide +kernel
theorem dL_law_982 : decode cL_law 982 = .ok (.iadd, 1) := by decide +kernel
theorem dL_law_983 : decode cL_law 983 = .ok (.iaload, 1) := by decide +kernel
theorem dL_law_984 : decode cL_law 984 = .ok (.invokevirtual 118, 3) := by decide +kernel
theorem dL_law_987 : decode cL_law 987 = .ok (.if_icmp .eq 448, 3) := by decide +kernel
theorem dL_law_990 : decode cL_law 990 = .ok (.iconst 0, 1) := by decide +kernel
theorem dL_law_991 : decode cL_law 991 = .ok (.ireturn, 1) := by decide +kernel
theorem dL_law_992 : decode cL_law 992 = .ok (.aload_n 1, 1) := by decide +kernel
theorem dL_law_993 : decode cL_law 993 = .ok (.aload_n 0, 1) := by decide +kernel
theorem dL_law_994 : decode cL_law 994 = .ok (.iload 4, 2) := by decide +kernel
theorem dL_law_996 : decode cL_law 996 = .ok (.iconst 1, 1) := by decide +kernel
theorem dL_law_997 : decode cL_law 997 = .ok (.iadd, 1) := by decide +kernel
theorem dL_law_998 : decode cL_law 998 = .ok (.iaload, 1) := by decide +kernel
theorem dL_law_999 : decode cL_law 999 = .ok (.invokevirtual 119, 3) := by decide +kernel
theorem dL_law_1002 : decode cL_law 1002 = .ok (.aload_n 2, 1) := by decide +kernel
theorem dL_law_1003 : decode cL_law 1003 = .ok (.aload_n 0, 1) := by decide +kernel
theorem dL_law_1004 : decode cL_law 1004 = .ok (.iload 4, 2) := by decide +kernel
theorem dL_law_1006 : decode cL_law 1006 = .ok (.iconst 1, 1) := by decide +kernel
theorem dL_law_1007 : decode cL_law 1007 = .ok (.iadd, 1) := by decide +kernel
theorem dL_law_1008 : decode cL_law 1008 = .ok (.iaload, 1) := by decide +kernel
theorem dL_law_1009 : decode cL_law 1009 = .ok (.invokevirtual 122, 3) := by decide +kernel
theorem dL_law_1012 : decode cL_law 1012 = .ok (.if_icmp .eq 423, 3) := by decide +kernel
theorem dL_law_1015 : decode cL_law 1015 = .ok (.iconst 0, 1) := by decide +kernel
theorem dL_law_1016 : decode cL_law 1016 = .ok (.ireturn, 1) := by decide +kernel
theorem dL_law_1017 : decode cL_law 1017 = .ok (.aload_n 1, 1) := by decide +kernel
theorem dL_law_1018 : decode cL_law 1018 = .ok (.aload_n 0, 1) := by decide +kernel
theorem dL_law_1019 : decode cL_law 1019 = .ok (.iload 4, 2) := by decide +kernel
theorem dL_law_1021 : decode cL_law 1021 = .ok (.iconst 1, 1) := by decide +kernel
theorem dL_law_1022 : decode cL_law 1022 = .ok (.iadd, 1) := by decide +kernel
theorem dL_law_1023 : decode cL_law 1023 = .ok (.iaload, 1) := by decide +kernel
theorem dL_law_1024 : decode cL_law 1024 = .ok (.aload_n 0, 1) := by decide +kernel
theorem dL_law_1025 : decode cL_law 1025 = .ok (.iload 4, 2) := by decide +kernel
theorem dL_law_1027 : decode cL_law 1027 = .ok (.iconst 2, 1) := by decide +kernel
theorem dL_law_1028 : decode cL_law 1028 = .ok (.iadd, 1) := by decide +kernel
theorem dL_law_1029 : decode cL_law 1029 = .ok (.iaload, 1) := by decide +kernel
theorem dL_law_1030 : decode cL_law 1030 = .ok (.ifCond .eq 7, 3) := by decide +kernel
theorem dL_law_1033 : decode cL_law 1033 = .ok (.iconst 1, 1) := by decide +kernel
theorem dL_law_1034 : decode cL_law 1034 = .ok (.goto 4, 3) := by decide +kernel
theorem dL_law_1037 : decode cL_law 1037 = .ok (.iconst 0, 1) := by decide +kernel
theorem dL_law_1038 : decode cL_law 1038 = .ok (.invokevirtual 123, 3) := by decide +kernel
theorem dL_law_1041 : decode cL_law 1041 = .ok (.aload_n 2, 1) := by decide +kernel
theorem dL_law_1042 : decode cL_law 1042 = .ok (.aload_n 0, 1) := by decide +kernel
theorem dL_law_1043 : decode cL_law 1043 = .ok (.iload 4, 2) := by decide +kernel
theorem dL_law_1045 : decode cL_law 1045 = .ok (.iconst 1, 1) := by decide +kernel
theorem dL_law_1046 : decode cL_law 1046 = .ok (.iadd, 1) := by decide +kernel
theorem dL_law_1047 : decode cL_law 1047 = .ok (.iaload, 1) := by decide +kernel
theorem dL_law_1048 : decode cL_law 1048 = .ok (.aload_n 0, 1) := by decide +kernel
theorem dL_law_1049 : decode cL_law 1049 = .ok (.iload 4, 2) := by decide +kernel
theorem dL_law_1051 : decode cL_law 1051 = .ok (.iconst 2, 1) := by decide +kernel
theorem dL_law_1052 : decode cL_law 1052 = .ok (.iadd, 1) := by decide +kernel
theorem dL_law_1053 : decode cL_law 1053 = .ok (.iaload, 1) := by decide +kernel
theorem dL_law_1054 : decode cL_law 1054 = .ok (.ifCond .eq 7, 3) := by decide +kernel
theorem dL_law_1057 : decode cL_law 1057 = .ok (.iconst 1, 1) := by decide +kernel
theorem dL_law_1058 : decode cL_law 1058 = .ok (.goto 4, 3) := by decide +kernel
theorem dL_law_1061 : decode cL_law 1061 = .ok (.iconst 0, 1) := by decide +kernel
theorem dL_law_1062 : decode cL_law 1062 = .ok (.invokevirtual 127, 3) := by decide +kernel
theorem dL_law_1065 : decode cL_law 1065 = .ok (.if_icmp .eq 370, 3) := by decide +kernel
theorem dL_law_1068 : decode cL_law 1068 = .ok (.iconst 0, 1) := by decide +kernel
theorem dL_law_1069 : decode cL_law 1069 = .ok (.ireturn, 1) := by decide +kernel
theorem dL_law_1070 : decode cL_law 1070 = .ok (.aload_n 1, 1) := by decide +kernel
theorem dL_law_1071 : decode cL_law 1071 = .ok (.invokevirtual 128, 3) := by decide +kernel
theorem dL_law_1074 : decode cL_law 1074 = .ok (.aload_n 2, 1) := by decide +kernel
theorem dL_law_1075 : decode cL_law 1075 = .ok (.invokevirtual 131, 3) := by decide +kernel
theorem dL_law_1078 : decode cL_law 1078 = .ok (.if_icmp .eq 357, 3) := by decide +kernel
theorem dL_law_1081 : decode cL_law 1081 = .ok (.iconst 0, 1) := by decide +kernel
theorem dL_law_1082 : decode cL_law 1082 = .ok (.ireturn, 1) := by decide +kernel
theorem dL_law_1083 : decode cL_law 1083 = .ok (.aload_n 1, 1) := by decide +kernel
theorem dL_law_1084 : decode cL_law 1084 = .ok (.aload_n 0, 1) := by decide +kernel
theorem dL_law_1085 : decode cL_law 1085 = .ok (.iload 4, 2) := by decide +kernel
theorem dL_law_1087 : decode cL_law 1087 = .ok (.iconst 1, 1) := by decide +kernel
theorem dL_law_1088 : decode cL_law 1088 = .ok (.iadd, 1) := by decide +kernel
theorem dL_law_1089 : decode cL_law 1089 = .ok (.iaload, 1) := by decide +kernel
theorem dL_law_1090 : decode cL_law 1090 = .ok (.invokevirtual 132, 3) := by decide +kernel
theorem dL_law_1093 : decode cL_law 1093 = .ok (.aload_n 2, 1) := by decide +kernel
theorem dL_law_1094 : decode cL_law 1094 = .ok (.aload_n 0, 1) := by decide +kernel
theorem dL_law_1095 : decode cL_law 1095 = .ok (.iload 4, 2) := by decide +kernel
theorem dL_law_1097 : decode cL_law 1097 = .ok (.iconst 1, 1) := by decide +kernel
theorem dL_law_1098 : decode cL_law 1098 = .ok (.iadd, 1) := by decide +kernel
theorem dL_law_1099 : decode cL_law 1099 = .ok (.iaload, 1) := by decide +kernel
theorem dL_law_1100 : decode cL_law 1100 = .ok (.invokevirtual 135, 3) := by decide +kernel
theorem dL_law_1103 : decode cL_law 1103 = .ok (.if_icmp .eq 332, 3) := by decide +kernel
theorem dL_law_1106 : decode cL_law 1106 = .ok (.iconst 0, 1) := by decide +kernel
theorem dL_law_1107 : decode cL_law 1107 = .ok (.ireturn, 1) := by decide +kernel
theorem dL_law_1108 : decode cL_law 1108 = .ok (.aload_n 1, 1) := by decide +kernel
theorem dL_law_1109 : decode cL_law 1109 = .ok (.aload_n 0, 1) := by decide +kernel
theorem dL_law_1110 : decode cL_law 1110 = .ok (.iload 4, 2) := by decide +kernel
theorem dL_law_1112 : decode cL_law 1112 = .ok (.iconst 1, 1) := by decide +kernel
theorem dL_law_1113 : decode cL_law 1113 = .ok (.iadd, 1) := by decide +kernel
theorem dL_law_1114 : decode cL_law 1114 = .ok (.iaload, 1) := by decide +kernel
theorem dL_law_1115 : decode cL_law 1115 = .ok (.invokevirtual 136, 3) := by decide +kernel
theorem dL_law_1118 : decode cL_law 1118 = .ok (.aload_n 2, 1) := by decide +kernel
theorem dL_law_1119 : decode cL_law 1119 = .ok (.aload_n 0, 1) := by decide +kernel
theorem dL_law_1120 : decode cL_law 1120 = .ok (.iload 4, 2) := by decide +kernel
theorem dL_law_1122 : decode cL_law 1122 = .ok (.iconst 1, 1) := by decide +kernel
theorem dL_law_1123 : decode cL_law 1123 = .ok (.iadd, 1) := by decide +kernel
theorem dL_law_1124 : decode cL_law 1124 = .ok (.iaload, 1) := by decide +kernel
theorem dL_law_1125 : decode cL_law 1125 = .ok (.invokevirtual 139, 3) := by decide +kernel
theorem dL_law_1128 : decode cL_law 1128 = .ok (.if_icmp .eq 307, 3) := by decide +kernel
theorem dL_law_1131 : decode cL_law 1131 = .ok (.iconst 0, 1) := by decide +kernel
theorem dL_law_1132 : decode cL_law 1132 = .ok (.ireturn, 1) := by decide +kernel
theorem dL_law_1133 : decode cL_law 1133 = .ok (.aload_n 1, 1) := by decide +kernel
theorem dL_law_1134 : decode cL_law 1134 = .ok (.aload_n 0, 1) := by decide +kernel
theorem dL_law_1135 : decode cL_law 1135 = .ok (.iload 4, 2) := by decide +kernel
theorem dL_law_1137 : decode cL_law 1137 = .ok (.iconst 1, 1) := by decide +kernel
theorem dL_law_1138 : decode cL_law 1138 = .ok (.iadd, 1) := by decide +kernel
theorem dL_law_1139 : decode cL_law 1139 = .ok (.iaload, 1) := by decide +kernel
theorem dL_law_1140 : decode cL_law 1140 = .ok (.invokevirtual 140, 3) := by decide +kernel
theorem dL_law_1143 : decode cL_law 1143 = .ok (.aload_n 2, 1) := by decide +kernel
theorem dL_law_1144 : decode cL_law 1144 = .ok (.aload_n 0, 1) := by decide +kernel
theorem dL_law_1145 : decode cL_law 1145 = .ok (.iload 4, 2) := by decide +kernel
theorem dL_law_1147 : decode cL_law 1147 = .ok (.iconst 1, 1) := by decide +kernel
theorem dL_law_1148 : decode cL_law 1148 = .ok (.iadd, 1) := by decide +kernel
theorem dL_law_1149 : decode cL_law 1149 = .ok (.iaload, 1) := by decide +kernel
theorem dL_law_1150 : decode cL_law 1150 = .ok (.invokevirtual 143, 3) := by decide +kernel
theorem dL_law_1153 : decode cL_law 1153 = .ok (.if_icmp .eq 282, 3) := by decide +kernel
theorem dL_law_1156 : decode cL_law 1156 = .ok (.iconst 0, 1) := by decide +kernel
theorem dL_law_1157 : decode cL_law 1157 = .ok (.ireturn, 1) := by decide +kernel
theorem dL_law_1158 : decode cL_law 1158 = .ok (.aload_n 1, 1) := by decide +kernel
theorem dL_law_1159 : decode cL_law 1159 = .ok (.invokevirtual 144, 3) := by decide +kernel
theorem dL_law_1162 : decode cL_law 1162 = .ok (.aload_n 2, 1) := by decide +kernel
theorem dL_law_1163 : decode cL_law 1163 = .ok (.invokevirtual 147, 3) := by decide +kernel
theorem dL_law_1166 : decode cL_law 1166 = .ok (.if_icmp .eq 269, 3) := by decide +kernel
theorem dL_law_1169 : decode cL_law 1169 = .ok (.iconst 0, 1) := by decide +kernel
theorem dL_law_1170 : decode cL_law 1170 = .ok (.ireturn, 1) := by decide +kernel
theorem dL_law_1171 : decode cL_law 1171 = .ok (.aload_n 1, 1) := by decide +kernel
theorem dL_law_1172 : decode cL_law 1172 = .ok (.aload_n 0, 1) := by decide +kernel
theorem dL_law_1173 : decode cL_law 1173 = .ok (.iload 4, 2) := by decide +kernel
theorem dL_law_1175 : decode cL_law 1175 = .ok (.iconst 1, 1) := by decide +kernel
theorem dL_law_1176 : decode cL_law 1176 = .ok (.iadd, 1) := by decide +kernel
theorem dL_law_1177 : decode cL_law 1177 = .ok (.iaload, 1) := by decide +kernel
theorem dL_law_1178 : decode cL_law 1178 = .ok (.aload_n 0, 1) := by decide +kernel
theorem dL_law_1179 : decode cL_law 1179 = .ok (.iload 4, 2) := by decide +kernel
theorem dL_law_1181 : decode cL_law 1181 = .ok (.iconst 2, 1) := by decide +kernel
theorem dL_law_1182 : decode cL_law 1182 = .ok (.iadd, 1) := by decide +kernel
theorem dL_law_1183 : decode cL_law 1183 = .ok (.iaload, 1) := by decide +kernel
theorem dL_law_1184 : decode cL_law 1184 = .ok (.aload_n 3, 1) := by decide +kernel
theorem dL_law_1185 : decode cL_law 1185 = .ok (.invokestatic 148, 3) := by decide +kernel
theorem dL_law_1188 : decode cL_law 1188 = .ok (.istore 5, 2) := by decide +kernel
theorem dL_law_1190 : decode cL_law 1190 = .ok (.aload_n 2, 1) := by decide +kernel
theorem dL_law_1191 : decode cL_law 1191 = .ok (.aload_n 0, 1) := by decide +kernel
theorem dL_law_1192 : decode cL_law 1192 = .ok (.iload 4, 2) := by decide +kernel
theorem dL_law_1194 : decode cL_law 1194 = .ok (.iconst 1, 1) := by decide +kernel
theorem dL_law_1195 : decode cL_law 1195 = .ok (.iadd, 1) := by decide +kernel
theorem dL_law_1196 : decode cL_law 1196 = .ok (.iaload, 1) := by decide +kernel
theorem dL_law_1197 : decode cL_law 1197 = .ok (.aload_n 0, 1) := by decide +kernel
theorem dL_law_1198 : decode cL_law 1198 = .ok (.iload 4, 2) := by decide +kernel
theorem dL_law_1200 : decode cL_law 1200 = .ok (.iconst 2, 1) := by decide +kernel
theorem dL_law_1201 : decode cL_law 1201 = .ok (.iadd, 1) := by decide +kernel
theorem dL_law_1202 : decode cL_law 1202 = .ok (.iaload, 1) := by decide +kernel
theorem dL_law_1203 : decode cL_law 1203 = .ok (.invokevirtual 151, 3) := by decide +kernel
theorem dL_law_1206 : decode cL_law 1206 = .ok (.istore 6, 2) := by decide +kernel
theorem dL_law_1208 : decode cL_law 1208 = .ok (.aload_n 2, 1) := by decide +kernel
theorem dL_law_1209 : decode cL_law 1209 = .ok (.invokevirtual 58, 3) := by decide +kernel
theorem dL_law_1212 : decode cL_law 1212 = .ok (.iload 5, 2) := by decide +kernel
theorem dL_law_1214 : decode cL_law 1214 = .ok (.if_icmp .eq 5, 3) := by decide +kernel
theorem dL_law_1217 : decode cL_law 1217 = .ok (.iconst 0, 1) := by decide +kernel
theorem dL_law_1218 : decode cL_law 1218 = .ok (.ireturn, 1) := by decide +kernel
theorem dL_law_1219 : decode cL_law 1219 = .ok (.iload 5, 2) := by decide +kernel
theorem dL_law_1221 : decode cL_law 1221 = .ok (.ifCond .ne 15, 3) := by decide +kernel
theorem dL_law_1224 : decode cL_law 1224 = .ok (.aload_n 3, 1) := by decide +kernel
theorem dL_law_1225 : decode cL_law 1225 = .ok (.iconst 0, 1) := by decide +kernel
theorem dL_law_1226 : decode cL_law 1226 = .ok (.laload, 1) := by decide +kernel
theorem dL_law_1227 : decode cL_law 1227 = .ok (.iload 6, 2) := by decide +kernel
theorem dL_law_1229 : decode cL_law 1229 = .ok (.i2l, 1) := by decide +kernel
theorem dL_law_1230 : decode cL_law 1230 = .ok (.lcmp, 1) := by decide +kernel
theorem dL_law_1231 : decode cL_law 1231 = .ok (.ifCond .eq 5, 3) := by decide +kernel
theorem dL_law_1234 : decode cL_law 1234 = .ok (.iconst 0, 1) := by decide +kernel
theorem dL_law_1235 : decode cL_law 1235 = .ok (.ireturn, 1) := by decide +kernel
theorem dL_law_1236 : decode cL_law 1236 = .ok (.goto 199, 3) := by decide +kernel
theorem dL_law_1239 : decode cL_law 1239 = .ok (.aload_n 1, 1) := by decide +kernel
theorem dL_law_1240 : decode cL_law 1240 = .ok (.aload_n 0, 1) := by decide +kernel
theorem dL_law_1241 : decode cL_law 1241 = .ok (.iload 4, 2) := by decide +kernel
theorem dL_law_1243 : decode cL_law 1243 = .ok (.iconst 1, 1) := by decide +kernel
theorem dL_law_1244 : decode cL_law 1244 = .ok (.iadd, 1) := by decide +kernel
theorem dL_law_1245 : decode cL_law 1245 = .ok (.iaload, 1) := by decide +kernel
theorem dL_law_1246 : decode cL_law 1246 = .ok (.aload_n 0, 1) := by decide +kernel
theorem dL_law_1247 : decode cL_law 1247 = .ok (.iload 4, 2) := by decide +kernel
theorem dL_law_1249 : decode cL_law 1249 = .ok (.iconst 2, 1) := by decide +kernel
theorem dL_law_1250 : decode cL_law 1250 = .ok (.iadd, 1) := by decide +kernel
theorem dL_law_1251 : decode cL_law 1251 = .ok (.iaload, 1) := by decide +kernel
theorem dL_law_1252 : decode cL_law 1252 = .ok (.aload_n 0, 1) := by decide +kernel
theorem dL_law_1253 : decode cL_law 1253 = .ok (.iload 4, 2) := by decide +kernel
theorem dL_law_1255 : decode cL_law 1255 = .ok (.iconst 3, 1) := by decide +kernel
theorem dL_law_1256 : decode cL_law 1256 = .ok (.iadd, 1) := by decide +kernel
theorem dL_law_1257 : decode cL_law 1257 = .ok (.iaload, 1) := by decide +kernel
theorem dL_law_1258 : decode cL_law 1258 = .ok (.invokevirtual 152, 3) := by decide +kernel
theorem dL_law_1261 : decode cL_law 1261 = .ok (.aload_n 2, 1) := by decide +kernel
theorem dL_law_1262 : decode cL_law 1262 = .ok (.aload_n 0, 1) := by decide +kernel
theorem dL_law_1263 : decode cL_law 1263 = .ok (.iload 4, 2) := by decide +kernel
theorem dL_law_1265 : decode cL_law 1265 = .ok (.iconst 1, 1) := by decide +kernel
theorem dL_law_1266 : decode cL_law 1266 = .ok (.iadd, 1) := by decide +kernel
theorem dL_law_1267 : decode cL_law 1267 = .ok (.iaload, 1) := by decide +kernel
theorem dL_law_1268 : decode cL_law 1268 = .ok (.aload_n 0, 1) := by decide +kernel
theorem dL_law_1269 : decode cL_law 1269 = .ok (.iload 4, 2) := by decide +kernel
theorem dL_law_1271 : decode cL_law 1271 = .ok (.iconst 2, 1) := by decide +kernel
theorem dL_law_1272 : decode cL_law 1272 = .ok (.iadd, 1) := by decide +kernel
theorem dL_law_1273 : decode cL_law 1273 = .ok (.iaload, 1) := by decide +kernel
theorem dL_law_1274 : decode cL_law 1274 = .ok (.aload_n 0, 1) := by decide +kernel
theorem dL_law_1275 : decode cL_law 1275 = .ok (.iload 4, 2) := by decide +kernel
theorem dL_law_1277 : decode cL_law 1277 = .ok (.iconst 3, 1) := by decide +kernel
theorem dL_law_1278 : decode cL_law 1278 = .ok (.iadd, 1) := by decide +kernel
theorem dL_law_1279 : decode cL_law 1279 = .ok (.iaload, 1) := by decide +kernel
theorem dL_law_1280 : decode cL_law 1280 = .ok (.invokevirtual 155, 3) := by decide +kernel
theorem dL_law_1283 : decode cL_law 1283 = .ok (.if_icmp .eq 152, 3) := by decide +kernel
theorem dL_law_1286 : decode cL_law 1286 = .ok (.iconst 0, 1) := by decide +kernel
theorem dL_law_1287 : decode cL_law 1287 = .ok (.ireturn, 1) := by decide +kernel
theorem dL_law_1288 : decode cL_law 1288 = .ok (.aload_n 1, 1) := by decide +kernel
theorem dL_law_1289 : decode cL_law 1289 = .ok (.aload_n 0, 1) := by decide +kernel
theorem dL_law_1290 : decode cL_law 1290 = .ok (.iload 4, 2) := by decide +kernel
theorem dL_law_1292 : decode cL_law 1292 = .ok (.iconst 1, 1) := by decide +kernel
theorem dL_law_1293 : decode cL_law 1293 = .ok (.iadd, 1) := by decide +kernel
theorem dL_law_1294 : decode cL_law 1294 = .ok (.iaload, 1) := by decide +kernel
theorem dL_law_1295 : decode cL_law 1295 = .ok (.aload_n 3, 1) := by decide +kernel
theorem dL_law_1296 : decode cL_law 1296 = .ok (.invokestatic 156, 3) := by decide +kernel
theorem dL_law_1299 : decode cL_law 1299 = .ok (.istore 5, 2) := by decide +kernel
theorem dL_law_1301 : decode cL_law 1301 = .ok (.aload_n 2, 1) := by decide +kernel
theorem dL_law_1302 : decode cL_law 1302 = .ok (.aload_n 0, 1) := by decide +kernel
theorem dL_law_1303 : decode cL_law 1303 = .ok (.iload 4, 2) := by decide +kernel
theorem dL_law_1305 : decode cL_law 1305 = .ok (.iconst 1, 1) := by decide +kernel
theorem dL_law_1306 : decode cL_law 1306 = .ok (.iadd, 1) := by decide +kernel
theorem dL_law_1307 : decode cL_law 1307 = .ok (.iaload, 1) := by decide +kernel
theorem dL_law_1308 : decode cL_law 1308 = .ok (.invokevirtual 159, 3) := by decide +kernel
theorem dL_law_1311 : decode cL_law 1311 = .ok (.istore 6, 2) := by decide +kernel
theorem dL_law_1313 : decode cL_law 1313 = .ok (.aload_n 2, 1) := by decide +kernel
theorem dL_law_1314 : decode cL_law 1314 = .ok (.invokevirtual 58, 3) := by decide +kernel
theorem dL_law_1317 : decode cL_law 1317 = .ok (.iload 5, 2) := by decide +kernel
theorem dL_law_1319 : decode cL_law 1319 = .ok (.if_icmp .eq 5, 3) := by decide +kernel
theorem dL_law_1322 : decode cL_law 1322 = .ok (.iconst 0, 1) := by decide +kernel
theorem dL_law_1323 : decode cL_law 1323 = .ok (.ireturn, 1) := by decide +kernel
theorem dL_law_1324 : decode cL_law 1324 = .ok (.iload 5, 2) := by decide +kernel
theorem dL_law_1326 : decode cL_law 1326 = .ok (.ifCond .ne 15, 3) := by decide +kernel
theorem dL_law_1329 : decode cL_law 1329 = .ok (.aload_n 3, 1) := by decide +kernel
theorem dL_law_1330 : decode cL_law 1330 = .ok (.iconst 0, 1) := by decide +kernel
theorem dL_law_1331 : decode cL_law 1331 = .ok (.laload, 1) := by decide +kernel
theorem dL_law_1332 : decode cL_law 1332 = .ok (.iload 6, 2) := by decide +kernel
theorem dL_law_1334 : decode cL_law 1334 = .ok (.i2l, 1) := by decide +kernel
theorem dL_law_1335 : decode cL_law 1335 = .ok (.lcmp, 1) := by decide +kernel
theorem dL_law_1336 : decode cL_law 1336 = .ok (.ifCond .eq 5, 3) := by decide +kernel
theorem dL_law_1339 : decode cL_law 1339 = .ok (.iconst 0, 1) := by decide +kernel
theorem dL_law_1340 : decode cL_law 1340 = .ok (.ireturn, 1) := by decide +kernel
theorem dL_law_1341 : decode cL_law 1341 = .ok (.goto 94, 3) := by decide +kernel
theorem dL_law_1344 : decode cL_law 1344 = .ok (.aload_n 1, 1) := by decide +kernel
theorem dL_law_1345 : decode cL_law 1345 = .ok (.invokevirtual 160, 3) := by decide +kernel
theorem dL_law_1348 : decode cL_law 1348 = .ok (.aload_n 2, 1) := by decide +kernel
theorem dL_law_1349 : decode cL_law 1349 = .ok (.invokevirtual 163, 3) := by decide +kernel
theorem dL_law_1352 : decode cL_law 1352 = .ok (.if_icmp .eq 83, 3) := by decide +kernel
theorem dL_law_1355 : decode cL_law 1355 = .ok (.iconst 0, 1) := by decide +kernel
theorem dL_law_1356 : decode cL_law 1356 = .ok (.ireturn, 1) := by decide +kernel
theorem dL_law_1357 : decode cL_law 1357 = .ok (.aload_n 1, 1) := by decide +kernel
theorem dL_law_1358 : decode cL_law 1358 = .ok (.aload_n 0, 1) := by decide +kernel
theorem dL_law_1359 : decode cL_law 1359 = .ok (.iload 4, 2) := by decide +kernel
theorem dL_law_1361 : decode cL_law 1361 = .ok (.iconst 1, 1) := by decide +kernel
theorem dL_law_1362 : decode cL_law 1362 = .ok (.iadd, 1) := by decide +kernel
theorem dL_law_1363 : decode cL_law 1363 = .ok (.iaload, 1) := by decide +kernel
theorem dL_law_1364 : decode cL_law 1364 = .ok (.aload_n 0, 1) := by decide +kernel
theorem dL_law_1365 : decode cL_law 1365 = .ok (.iload 4, 2) := by decide +kernel
theorem dL_law_1367 : decode cL_law 1367 = .ok (.iconst 2, 1) := by decide +kernel
theorem dL_law_1368 : decode cL_law 1368 = .ok (.iadd, 1) := by decide +kernel
theorem dL_law_1369 : decode cL_law 1369 = .ok (.iaload, 1) := by decide +kernel
theorem dL_law_1370 : decode cL_law 1370 = .ok (.ifCond .eq 7, 3) := by decide +kernel
theorem dL_law_1373 : decode cL_law 1373 = .ok (.iconst 1, 1) := by decide +kernel
theorem dL_law_1374 : decode cL_law 1374 = .ok (.goto 4, 3) := by decide +kernel
theorem dL_law_1377 : decode cL_law 1377 = .ok (.iconst 0, 1) := by decide +kernel
theorem dL_law_1378 : decode cL_law 1378 = .ok (.invokevirtual 164, 3) := by decide +kernel
theorem dL_law_1381 : decode cL_law 1381 = .ok (.aload_n 2, 1) := by decide +kernel
theorem dL_law_1382 : decode cL_law 1382 = .ok (.aload_n 0, 1) := by decide +kernel
theorem dL_law_1383 : decode cL_law 1383 = .ok (.iload 4, 2) := by decide +kernel
theorem dL_law_1385 : decode cL_law 1385 = .ok (.iconst 1, 1) := by decide +kernel
theorem dL_law_1386 : decode cL_law 1386 = .ok (.iadd, 1) := by decide +kernel
theorem dL_law_1387 : decode cL_law 1387 = .ok (.iaload, 1) := by decide +kernel
theorem dL_law_1388 : decode cL_law 1388 = .ok (.aload_n 0, 1) := by decide +kernel
theorem dL_law_1389 : decode cL_law 1389 = .ok (.iload 4, 2) := by decide +kernel
theorem dL_law_1391 : decode cL_law 1391 = .ok (.iconst 2, 1) := by decide +kernel
theorem dL_law_1392 : decode cL_law 1392 = .ok (.iadd, 1) := by decide +kernel
theorem dL_law_1393 : decode cL_law 1393 = .ok (.iaload, 1) := by decide +kernel
theorem dL_law_1394 : decode cL_law 1394 = .ok (.ifCond .eq 7, 3) := by decide +kernel
theorem dL_law_1397 : decode cL_law 1397 = .ok (.iconst 1, 1) := by decide +kernel
theorem dL_law_1398 : decode cL_law 1398 = .ok (.goto 4, 3) := by decide +kernel
theorem dL_law_1401 : decode cL_law 1401 = .ok (.iconst 0, 1) := by decide +kernel
theorem dL_law_1402 : decode cL_law 1402 = .ok (.invokevirtual 168, 3) := by decide +kernel
theorem dL_law_1405 : decode cL_law 1405 = .ok (.if_icmp .eq 30, 3) := by decide +kernel
theorem dL_law_1408 : decode cL_law 1408 = .ok (.iconst 0, 1) := by decide +kernel
theorem dL_law_1409 : decode cL_law 1409 = .ok (.ireturn, 1) := by decide +kernel
theorem dL_law_1410 : decode cL_law 1410 = .ok (.aload_n 1, 1) := by decide +kernel
theorem dL_law_1411 : decode cL_law 1411 = .ok (.aload_n 0, 1) := by decide +kernel
theorem dL_law_1412 : decode cL_law 1412 = .ok (.iload 4, 2) := by decide +kernel
theorem dL_law_1414 : decode cL_law 1414 = .ok (.iconst 1, 1) := by decide +kernel
theorem dL_law_1415 : decode cL_law 1415 = .ok (.iadd, 1) := by decide +kernel
theorem dL_law_1416 : decode cL_law 1416 = .ok (.iaload, 1) := by decide +kernel
theorem dL_law_1417 : decode cL_law 1417 = .ok (.invokevirtual 169, 3) := by decide +kernel
theorem dL_law_1420 : decode cL_law 1420 = .ok (.aload_n 2, 1) := by decide +kernel
theorem dL_law_1421 : decode cL_law 1421 = .ok (.aload_n 0, 1) := by decide +kernel
theorem dL_law_1422 : decode cL_law 1422 = .ok (.iload 4, 2) := by decide +kernel
theorem dL_law_1424 : decode cL_law 1424 = .ok (.iconst 1, 1) := by decide +kernel
theorem dL_law_1425 : decode cL_law 1425 = .ok (.iadd, 1) := by decide +kernel
theorem dL_law_1426 : decode cL_law 1426 = .ok (.iaload, 1) := by decide +kernel
theorem dL_law_1427 : decode cL_law 1427 = .ok (.invokevirtual 172, 3) := by decide +kernel
theorem dL_law_1430 : decode cL_law 1430 = .ok (.if_icmp .eq 5, 3) := by decide +kernel
theorem dL_law_1433 : decode cL_law 1433 = .ok (.iconst 0, 1) := by decide +kernel
theorem dL_law_1434 : decode cL_law 1434 = .ok (.ireturn, 1) := by decide +kernel
theorem dL_law_1435 : decode cL_law 1435 = .ok (.iinc 4 6, 3) := by decide +kernel
theorem dL_law_1438 : decode cL_law 1438 = .ok (.goto (-1415), 3) := by decide +kernel
theorem dL_law_1441 : decode cL_law 1441 = .ok (.iconst 1, 1) := by decide +kernel
theorem dL_law_1442 : decode cL_law 1442 = .ok (.ireturn, 1) := by decide +kernel
