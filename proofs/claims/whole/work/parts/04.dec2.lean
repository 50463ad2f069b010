theorem dX11_named_20 : decode cX11_named 20 = .ok (.imul, 1) := by decide +kernel
theorem dX11_named_21 : decode cX11_named 21 = .ok (.iadd, 1) := by decide +kernel
theorem dX11_named_22 : decode cX11_named 22 = .ok (.iload_n 2, 1) := by decide +kernel
theorem dX11_named_23 : decode cX11_named 23 = .ok (.iadd, 1) := by decide +kernel
theorem dX11_named_24 : decode cX11_named 24 = .ok (.laload, 1) := by decide +kernel
theorem dX11_named_25 : decode cX11_named 25 = .ok (.aload_n 0, 1) := by decide +kernel
theorem dX11_named_26 : decode cX11_named 26 = .ok (.getfield 148, 3) := by decide +kernel
theorem dX11_named_29 : decode cX11_named 29 = .ok (.lcmp, 1) := by decide +kernel
theorem dX11_named_30 : decode cX11_named 30 = .ok (.ifCond .ne 5, 3) := by decide +kernel
theorem dX11_named_33 : decode cX11_named 33 = .ok (.iload_n 2, 1) := by decide +kernel
theorem dX11_named_34 : decode cX11_named 34 = .ok (.ireturn, 1) := by decide +kernel
theorem dX11_named_35 : decode cX11_named 35 = .ok (.iinc 2 1, 3) := by decide +kernel
theorem dX11_named_38 : decode cX11_named 38 = .ok (.goto (-36), 3) := by decide +kernel
theorem dX11_named_41 : decode cX11_named 41 = .ok (.iconst (-1), 1) := by decide +kernel
theorem dX11_named_42 : decode cX11_named 42 = .ok (.ireturn, 1) := by decide +kernel
theorem dX11_newName_0 : decode cX11_newName 0 = .ok (.iconst 1, 1) := by decide +kernel
theorem dX11_newName_1 : decode cX11_newName 1 = .ok (.istore_n 2, 1) := by decide +kernel
theorem dX11_newName_2 : decode cX11_newName 2 = .ok (.aload_n 0, 1) := by decide +kernel
theorem dX11_newName_3 : decode cX11_newName 3 = .ok (.aload_n 0, 1) := by decide +kernel
theorem dX11_newName_4 : decode cX11_newName 4 = .ok (.invokevirtual 234, 3) := by decide +kernel
theorem dX11_newName_7 : decode cX11_newName 7 = .ok (.iconst 1, 1) := by decide +kernel
theorem dX11_newName_8 : decode cX11_newName 8 = .ok (.invokevirtual 224, 3) := by decide +kernel
theorem dX11_newName_11 : decode cX11_newName 11 = .ok (.ifCond .ne 4, 3) := by decide +kernel
theorem dX11_newName_14 : decode cX11_newName 14 = .ok (.return_, 1) := by decide +kernel
theorem dX11_newName_15 : decode cX11_newName 15 = .ok (.iconst 0, 1) := by decide +kernel
theorem dX11_newName_16 : decode cX11_newName 16 = .ok (.istore_n 3, 1) := by decide +kernel
theorem dX11_newName_17 : decode cX11_newName 17 = .ok (.iload_n 3, 1) := by decide +kernel
theorem dX11_newName_18 : decode cX11_newName 18 = .ok (.iconst 5, 1) := by decide +kernel
theorem dX11_newName_19 : decode cX11_newName 19 = .ok (.if_icmp .ge 25, 3) := by decide +kernel
theorem dX11_newName_22 : decode cX11_newName 22 = .ok (.iload_n 2, 1) := by decide +kernel
theorem dX11_newName_23 : decode cX11_newName 23 = .ok (.aload_n 0, 1) := by decide +kernel
theorem dX11_newName_24 : decode cX11_newName 24 = .ok (.iload_n 3, 1) := by decide +kernel
theorem dX11_newName_25 : decode cX11_newName 25 = .ok (.invokevirtual 237, 3) := by decide +kernel
theorem dX11_newName_28 : decode cX11_newName 28 = .ok (.ifCond .ge 7, 3) := by decide +kernel
theorem dX11_newName_31 : decode cX11_newName 31 = .ok (.iconst 1, 1) := by decide +kernel
theorem dX11_newName_32 : decode cX11_newName 32 = .ok (.goto 4, 3) := by decide +kernel
theorem dX11_newName_35 : decode cX11_newName 35 = .ok (.iconst 0, 1) := by decide +kernel
theorem dX11_newName_36 : decode cX11_newName 36 = .ok (.iand, 1) := by decide +kernel
theorem dX11_newName_37 : decode cX11_newName 37 = .ok (.istore_n 2, 1) := by decide +kernel
theorem dX11_newName_38 : decode cX11_newName 38 = .ok (.iinc 3 1, 3) := by decide +kernel
theorem dX11_newName_41 : decode cX11_newName 41 = .ok (.goto (-24), 3) := by decide +kernel
theorem dX11_newName_44 : decode cX11_newName 44 = .ok (.aload_n 0, 1) := by decide +kernel
theorem dX11_newName_45 : decode cX11_newName 45 = .ok (.iload_n 2, 1) := by decide +kernel
theorem dX11_newName_46 : decode cX11_newName 46 = .ok (.iconst 2, 1) := by decide +kernel
theorem dX11_newName_47 : decode cX11_newName 47 = .ok (.invokevirtual 224, 3) := by decide +kernel
theorem dX11_newName_50 : decode cX11_newName 50 = .ok (.ifCond .ne 4, 3) := by decide +kernel
theorem dX11_newName_53 : decode cX11_newName 53 = .ok (.return_, 1) := by decide +kernel
theorem dX11_newName_54 : decode cX11_newName 54 = .ok (.aload_n 0, 1) := by decide +kernel
theorem dX11_newName_55 : decode cX11_newName 55 = .ok (.getfield 24, 3) := by decide +kernel
theorem dX11_newName_58 : decode cX11_newName 58 = .ok (.bipush 40, 2) := by decide +kernel
theorem dX11_newName_60 : decode cX11_newName 60 = .ok (.bipush 8, 2) := by decide +kernel
theorem dX11_newName_62 : decode cX11_newName 62 = .ok (.iload_n 1, 1) := by decide +kernel
theorem dX11_newName_63 : decode cX11_newName 63 = .ok (.imul, 1) := by decide +kernel
theorem dX11_newName_64 : decode cX11_newName 64 = .ok (.iadd, 1) := by decide +kernel
theorem dX11_newName_65 : decode cX11_newName 65 = .ok (.aload_n 0, 1) := by decide +kernel
theorem dX11_newName_66 : decode cX11_newName 66 = .ok (.iload_n 1, 1) := by decide +kernel
theorem dX11_newName_67 : decode cX11_newName 67 = .ok (.invokevirtual 231, 3) := by decide +kernel
theorem dX11_newName_70 : decode cX11_newName 70 = .ok (.iadd, 1) := by decide +kernel
theorem dX11_newName_71 : decode cX11_newName 71 = .ok (.aload_n 0, 1) := by decide +kernel
theorem dX11_newName_72 : decode cX11_newName 72 = .ok (.getfield 148, 3) := by decide +kernel
theorem dX11_newName_75 : decode cX11_newName 75 = .ok (.lastore, 1) := by decide +kernel
theorem dX11_newName_76 : decode cX11_newName 76 = .ok (.aload_n 0, 1) := by decide +kernel
theorem dX11_newName_77 : decode cX11_newName 77 = .ok (.invokevirtual 228, 3) := by decide +kernel
theorem dX11_newName_80 : decode cX11_newName 80 = .ok (.return_, 1) := by decide +kernel
theorem dX11_looksUp_0 : decode cX11_looksUp 0 = .ok (.aload_n 0, 1) := by decide +kernel
theorem dX11_looksUp_1 : decode cX11_looksUp 1 = .ok (.aload_n 0, 1) := by decide +kernel
theorem dX11_looksUp_2 : decode cX11_looksUp 2 = .ok (.invokevirtual 234, 3) := by decide +kernel
theorem dX11_looksUp_5 : decode cX11_looksUp 5 = .ok (.iconst 1, 1) := by decide +kernel
theorem dX11_looksUp_6 : decode cX11_looksUp 6 = .ok (.invokevirtual 224, 3) := by decide +kernel
theorem dX11_looksUp_9 : decode cX11_looksUp 9 = .ok (.ifCond .eq 24, 3) := by decide +kernel
theorem dX11_looksUp_12 : decode cX11_looksUp 12 = .ok (.aload_n 0, 1) := by decide +kernel
theorem dX11_looksUp_13 : decode cX11_looksUp 13 = .ok (.aload_n 0, 1) := by decide +kernel
theorem dX11_looksUp_14 : decode cX11_looksUp 14 = .ok (.iload_n 1, 1) := by decide +kernel
theorem dX11_looksUp_15 : decode cX11_looksUp 15 = .ok (.invokevirtual 237, 3) := by decide +kernel
theorem dX11_looksUp_18 : decode cX11_looksUp 18 = .ok (.ifCond .lt 7, 3) := by decide +kernel
theorem dX11_looksUp_21 : decode cX11_looksUp 21 = .ok (.iconst 1, 1) := by decide +kernel
theorem dX11_looksUp_22 : decode cX11_looksUp 22 = .ok (.goto 4, 3) := by decide +kernel
theorem dX11_looksUp_25 : decode cX11_looksUp 25 = .ok (.iconst 0, 1) := by decide +kernel
theorem dX11_looksUp_26 : decode cX11_looksUp 26 = .ok (.iconst 4, 1) := by decide +kernel
theorem dX11_looksUp_27 : decode cX11_looksUp 27 = .ok (.invokevirtual 224, 3) := by decide +kernel
theorem dX11_looksUp_30 : decode cX11_looksUp 30 = .ok (.ifCond .ne 5, 3) := by decide +kernel
theorem dX11_looksUp_33 : decode cX11_looksUp 33 = .ok (.iconst 0, 1) := by decide +kernel
theorem dX11_looksUp_34 : decode cX11_looksUp 34 = .ok (.ireturn, 1) := by decide +kernel
theorem dX11_looksUp_35 : decode cX11_looksUp 35 = .ok (.aload_n 0, 1) := by decide +kernel
theorem dX11_looksUp_36 : decode cX11_looksUp 36 = .ok (.iload_n 1, 1) := by decide +kernel
theorem dX11_looksUp_37 : decode cX11_looksUp 37 = .ok (.invokevirtual 237, 3) := by decide +kernel
theorem dX11_looksUp_40 : decode cX11_looksUp 40 = .ok (.ireturn, 1) := by decide +kernel
theorem dX11_known_0 : decode cX11_known 0 = .ok (.aload_n 0, 1) := by decide +kernel
theorem dX11_known_1 : decode cX11_known 1 = .ok (.iload_n 1, 1) := by decide +kernel
theorem dX11_known_2 : decode cX11_known 2 = .ok (.invokevirtual 240, 3) := by decide +kernel
theorem dX11_known_5 : decode cX11_known 5 = .ok (.istore_n 2, 1) := by decide +kernel
theorem dX11_known_6 : decode cX11_known 6 = .ok (.aload_n 0, 1) := by decide +kernel
theorem dX11_known_7 : decode cX11_known 7 = .ok (.getfield 166, 3) := by decide +kernel
theorem dX11_known_10 : decode cX11_known 10 = .ok (.ifCond .ne 7, 3) := by decide +kernel
theorem dX11_known_13 : decode cX11_known 13 = .ok (.aload_n 0, 1) := by decide +kernel
theorem dX11_known_14 : decode cX11_known 14 = .ok (.invokevirtual 228, 3) := by decide +kernel
theorem dX11_known_17 : decode cX11_known 17 = .ok (.iload_n 2, 1) := by decide +kernel
theorem dX11_known_18 : decode cX11_known 18 = .ok (.ireturn, 1) := by decide +kernel
theorem dX11_cameraLine_0 : decode cX11_cameraLine 0 = .ok (.aload_n 0, 1) := by decide +kernel
theorem dX11_cameraLine_1 : decode cX11_cameraLine 1 = .ok (.iconst 0, 1) := by decide +kernel
theorem dX11_cameraLine_2 : decode cX11_cameraLine 2 = .ok (.invokevirtual 243, 3) := by decide +kernel
theorem dX11_cameraLine_5 : decode cX11_cameraLine 5 = .ok (.iconst 5, 1) := by decide +kernel
theorem dX11_cameraLine_6 : decode cX11_cameraLine 6 = .ok (.aload_n 0, 1) := by decide +kernel
theorem dX11_cameraLine_7 : decode cX11_cameraLine 7 = .ok (.iconst 0, 1) := by decide +kernel
theorem dX11_cameraLine_8 : decode cX11_cameraLine 8 = .ok (.invokevirtual 231, 3) := by decide +kernel
theorem dX11_cameraLine_11 : decode cX11_cameraLine 11 = .ok (.iadd, 1) := by decide +kernel
theorem dX11_cameraLine_12 : decode cX11_cameraLine 12 = .ok (.istore_n 1, 1) := by decide +kernel
theorem dX11_cameraLine_13 : decode cX11_cameraLine 13 = .ok (.aload_n 0, 1) := by decide +kernel
theorem dX11_cameraLine_14 : decode cX11_cameraLine 14 = .ok (.getfield 28, 3) := by decide +kernel
theorem dX11_cameraLine_17 : decode cX11_cameraLine 17 = .ok (.iload_n 1, 1) := by decide +kernel
theorem dX11_cameraLine_18 : decode cX11_cameraLine 18 = .ok (.aload_n 0, 1) := by decide +kernel
theorem dX11_cameraLine_19 : decode cX11_cameraLine 19 = .ok (.iconst 0, 1) := by decide +kernel
theorem dX11_cameraLine_20 : decode cX11_cameraLine 20 = .ok (.sipush 999, 3) := by decide +kernel
theorem dX11_cameraLine_23 : decode cX11_cameraLine 23 = .ok (.invokevirtual 246, 3) := by decide +kernel
theorem dX11_cameraLine_26 : decode cX11_cameraLine 26 = .ok (.iastore, 1) := by decide +kernel
theorem dX11_cameraLine_27 : decode cX11_cameraLine 27 = .ok (.aload_n 0, 1) := by decide +kernel
theorem dX11_cameraLine_28 : decode cX11_cameraLine 28 = .ok (.getfield 31, 3) := by decide +kernel
theorem dX11_cameraLine_31 : decode cX11_cameraLine 31 = .ok (.iload_n 1, 1) := by decide +kernel
theorem dX11_cameraLine_32 : decode cX11_cameraLine 32 = .ok (.aload_n 0, 1) := by decide +kernel
theorem dX11_cameraLine_33 : decode cX11_cameraLine 33 = .ok (.aload_n 0, 1) := by decide +kernel
theorem dX11_cameraLine_34 : decode cX11_cameraLine 34 = .ok (.getfield 28, 3) := by decide +kernel
theorem dX11_cameraLine_37 : decode cX11_cameraLine 37 = .ok (.iload_n 1, 1) := by decide +kernel
theorem dX11_cameraLine_38 : decode cX11_cameraLine 38 = .ok (.iaload, 1) := by decide +kernel
theorem dX11_cameraLine_39 : decode cX11_cameraLine 39 = .ok (.sipush 999, 3) := by decide +kernel
theorem dX11_cameraLine_42 : decode cX11_cameraLine 42 = .ok (.invokevirtual 246, 3) := by decide +kernel
theorem dX11_cameraLine_45 : decode cX11_cameraLine 45 = .ok (.iastore, 1) := by decide +kernel
theorem dX11_cameraLine_46 : decode cX11_cameraLine 46 = .ok (.aload_n 0, 1) := by decide +kernel
theorem dX11_cameraLine_47 : decode cX11_cameraLine 47 = .ok (.getfield 166, 3) := by decide +kernel
theorem dX11_cameraLine_50 : decode cX11_cameraLine 50 = .ok (.ifCond .ne 14, 3) := by decide +kernel
theorem dX11_cameraLine_53 : decode cX11_cameraLine 53 = .ok (.aload_n 0, 1) := by decide +kernel
theorem dX11_cameraLine_54 : decode cX11_cameraLine 54 = .ok (.getfield 13, 3) := by decide +kernel
theorem dX11_cameraLine_57 : decode cX11_cameraLine 57 = .ok (.bipush 6, 2) := by decide +kernel
theorem dX11_cameraLine_59 : decode cX11_cameraLine 59 = .ok (.dup2, 1) := by decide +kernel
theorem dX11_cameraLine_60 : decode cX11_cameraLine 60 = .ok (.iaload, 1) := by decide +kernel
theorem dX11_cameraLine_61 : decode cX11_cameraLine 61 = .ok (.iconst 1, 1) := by decide +kernel
theorem dX11_cameraLine_62 : decode cX11_cameraLine 62 = .ok (.iadd, 1) := by decide +kernel
theorem dX11_cameraLine_63 : decode cX11_cameraLine 63 = .ok (.iastore, 1) := by decide +kernel
theorem dX11_cameraLine_64 : decode cX11_cameraLine 64 = .ok (.return_, 1) := by decide +kernel
theorem dX11_flashLine_0 : decode cX11_flashLine 0 = .ok (.bipush 24, 2) := by decide +kernel
theorem dX11_flashLine_2 : decode cX11_flashLine 2 = .ok (.iconst 4, 1) := by decide +kernel
theorem dX11_flashLine_3 : decode cX11_flashLine 3 = .ok (.aload_n 0, 1) := by decide +kernel
theorem dX11_flashLine_4 : decode cX11_flashLine 4 = .ok (.iconst 5, 1) := by decide +kernel
theorem dX11_flashLine_5 : decode cX11_flashLine 5 = .ok (.invokevirtual 231, 3) := by decide +kernel
theorem dX11_flashLine_8 : decode cX11_flashLine 8 = .ok (.imul, 1) := by decide +kernel
theorem dX11_flashLine_9 : decode cX11_flashLine 9 = .ok (.iadd, 1) := by decide +kernel
theorem dX11_flashLine_10 : decode cX11_flashLine 10 = .ok (.istore_n 1, 1) := by decide +kernel
theorem dX11_flashLine_11 : decode cX11_flashLine 11 = .ok (.aload_n 0, 1) := by decide +kernel
theorem dX11_flashLine_12 : decode cX11_flashLine 12 = .ok (.getfield 34, 3) := by decide +kernel
theorem dX11_flashLine_15 : decode cX11_flashLine 15 = .ok (.iload_n 1, 1) := by decide +kernel
theorem dX11_flashLine_16 : decode cX11_flashLine 16 = .ok (.aload_n 0, 1) := by decide +kernel
theorem dX11_flashLine_17 : decode cX11_flashLine 17 = .ok (.iconst 0, 1) := by decide +kernel
theorem dX11_flashLine_18 : decode cX11_flashLine 18 = .ok (.invokevirtual 250, 3) := by decide +kernel
theorem dX11_flashLine_21 : decode cX11_flashLine 21 = .ok (.iastore, 1) := by decide +kernel
theorem dX11_flashLine_22 : decode cX11_flashLine 22 = .ok (.aload_n 0, 1) := by decide +kernel
theorem dX11_flashLine_23 : decode cX11_flashLine 23 = .ok (.getfield 34, 3) := by decide +kernel
theorem dX11_flashLine_26 : decode cX11_flashLine 26 = .ok (.iload_n 1, 1) := by decide +kernel
theorem dX11_flashLine_27 : decode cX11_flashLine 27 = .ok (.iconst 1, 1) := by decide +kernel
theorem dX11_flashLine_28 : decode cX11_flashLine 28 = .ok (.iadd, 1) := by decide +kernel
theorem dX11_flashLine_29 : decode cX11_flashLine 29 = .ok (.aload_n 0, 1) := by decide +kernel
theorem dX11_flashLine_30 : decode cX11_flashLine 30 = .ok (.iconst 0, 1) := by decide +kernel
theorem dX11_flashLine_31 : decode cX11_flashLine 31 = .ok (.sipush 999, 3) := by decide +kernel
theorem dX11_flashLine_34 : decode cX11_flashLine 34 = .ok (.invokevirtual 246, 3) := by decide +kernel
theorem dX11_flashLine_37 : decode cX11_flashLine 37 = .ok (.iastore, 1) := by decide +kernel
theorem dX11_flashLine_38 : decode cX11_flashLine 38 = .ok (.aload_n 0, 1) := by decide +kernel
theorem dX11_flashLine_39 : decode cX11_flashLine 39 = .ok (.getfield 34, 3) := by decide +kernel
theorem dX11_flashLine_42 : decode cX11_flashLine 42 = .ok (.iload_n 1, 1) := by decide +kernel
theorem dX11_flashLine_43 : decode cX11_flashLine 43 = .ok (.iconst 2, 1) := by decide +kernel
theorem dX11_flashLine_44 : decode cX11_flashLine 44 = .ok (.iadd, 1) := by decide +kernel
theorem dX11_flashLine_45 : decode cX11_flashLine 45 = .ok (.aload_n 0, 1) := by decide +kernel
theorem dX11_flashLine_46 : decode cX11_flashLine 46 = .ok (.iconst 0, 1) := by decide +kernel
theorem dX11_flashLine_47 : decode cX11_flashLine 47 = .ok (.invokevirtual 240, 3) := by decide +kernel
theorem dX11_flashLine_50 : decode cX11_flashLine 50 = .ok (.iastore, 1) := by decide +kernel
theorem dX11_flashLine_51 : decode cX11_flashLine 51 = .ok (.aload_n 0, 1) := by decide +kernel
theorem dX11_flashLine_52 : decode cX11_flashLine 52 = .ok (.aload_n 0, 1) := by decide +kernel
theorem dX11_flashLine_53 : decode cX11_flashLine 53 = .ok (.getfield 34, 3) := by decide +kernel
theorem dX11_flashLine_56 : decode cX11_flashLine 56 = .ok (.iload_n 1, 1) := by decide +kernel
theorem dX11_flashLine_57 : decode cX11_flashLine 57 = .ok (.iconst 2, 1) := by decide +kernel
theorem dX11_flashLine_58 : decode cX11_flashLine 58 = .ok (.iadd, 1) := by decide +kernel
theorem dX11_flashLine_59 : decode cX11_flashLine 59 = .ok (.iaload, 1) := by decide +kernel
theorem dX11_flashLine_60 : decode cX11_flashLine 60 = .ok (.aload_n 0, 1) := by decide +kernel
theorem dX11_flashLine_61 : decode cX11_flashLine 61 = .ok (.getfield 34, 3) := by decide +kernel
theorem dX11_flashLine_64 : decode cX11_flashLine 64 = .ok (.iload_n 1, 1) := by decide +kernel
theorem dX11_flashLine_65 : decode cX11_flashLine 65 = .ok (.iaload, 1) := by decide +kernel
theorem dX11_flashLine_66 : decode cX11_flashLine 66 = .ok (.if_icmp .eq 7, 3) := by decide +kernel
theorem dX11_flashLine_69 : decode cX11_flashLine 69 = .ok (.iconst 1, 1) := by decide +kernel
theorem dX11_flashLine_70 : decode cX11_flashLine 70 = .ok (.goto 4, 3) := by decide +kernel
theorem dX11_flashLine_73 : decode cX11_flashLine 73 = .ok (.iconst 0, 1) := by decide +kernel
theorem dX11_flashLine_74 : decode cX11_flashLine 74 = .ok (.iconst 4, 1) := by decide +kernel
theorem dX11_flashLine_75 : decode cX11_flashLine 75 = .ok (.invokevirtual 224, 3) := by decide +kernel
theorem dX11_flashLine_78 : decode cX11_flashLine 78 = .ok (.ifCond .ne 4, 3) := by decide +kernel
theorem dX11_flashLine_81 : decode cX11_flashLine 81 = .ok (.return_, 1) := by decide +kernel
theorem dX11_flashLine_82 : decode cX11_flashLine 82 = .ok (.aload_n 0, 1) := by decide +kernel
theorem dX11_flashLine_83 : decode cX11_flashLine 83 = .ok (.invokevirtual 228, 3) := by decide +kernel
theorem dX11_flashLine_86 : decode cX11_flashLine 86 = .ok (.aload_n 0, 1) := by decide +kernel
theorem dX11_flashLine_87 : decode cX11_flashLine 87 = .ok (.getfield 34, 3) := by decide +kernel
theorem dX11_flashLine_90 : decode cX11_flashLine 90 = .ok (.iload_n 1, 1) := by decide +kernel
theorem dX11_flashLine_91 : decode cX11_flashLine 91 = .ok (.iconst 3, 1) := by decide +kernel
theorem dX11_flashLine_92 : decode cX11_flashLine 92 = .ok (.iadd, 1) := by decide +kernel
theorem dX11_flashLine_93 : decode cX11_flashLine 93 = .ok (.aload_n 0, 1) := by decide +kernel
theorem dX11_flashLine_94 : decode cX11_flashLine 94 = .ok (.iconst 0, 1) := by decide +kernel
theorem dX11_flashLine_95 : decode cX11_flashLine 95 = .ok (.sipush 999, 3) := by decide +kernel
theorem dX11_flashLine_98 : decode cX11_flashLine 98 = .ok (.invokevirtual 246, 3) := by decide +kernel
theorem dX11_flashLine_101 : decode cX11_flashLine 101 = .ok (.iastore, 1) := by decide +kernel
theorem dX11_flashLine_102 : decode cX11_flashLine 102 = .ok (.aload_n 0, 1) := by decide +kernel
theorem dX11_flashLine_103 : decode cX11_flashLine 103 = .ok (.getfield 166, 3) := by decide +kernel
theorem dX11_flashLine_106 : decode cX11_flashLine 106 = .ok (.ifCond .ne 14, 3) := by decide +kernel
theorem dX11_flashLine_109 : decode cX11_flashLine 109 = .ok (.aload_n 0, 1) := by decide +kernel
theorem dX11_flashLine_110 : decode cX11_flashLine 110 = .ok (.getfield 13, 3) := by decide +kernel
theorem dX11_flashLine_113 : decode cX11_flashLine 113 = .ok (.bipush 11, 2) := by decide +kernel
theorem dX11_flashLine_115 : decode cX11_flashLine 115 = .ok (.dup2, 1) := by decide +kernel
theorem dX11_flashLine_116 : decode cX11_flashLine 116 = .ok (.iaload, 1) := by decide +kernel
theorem dX11_flashLine_117 : decode cX11_flashLine 117 = .ok (.iconst 1, 1) := by decide +kernel
theorem dX11_flashLine_118 : decode cX11_flashLine 118 = .ok (.iadd, 1) := by decide +kernel
theorem dX11_flashLine_119 : decode cX11_flashLine 119 = .ok (.iastore, 1) := by decide +kernel
theorem dX11_flashLine_120 : decode cX11_flashLine 120 = .ok (.return_, 1) := by decide +kernel
theorem dX11_sideLine_0 : decode cX11_sideLine 0 = .ok (.aload_n 0, 1) := by decide +kernel
theorem dX11_sideLine_1 : decode cX11_sideLine 1 = .ok (.iconst 1, 1) := by decide +kernel
theorem dX11_sideLine_2 : decode cX11_sideLine 2 = .ok (.invokevirtual 243, 3) := by decide +kernel
theorem dX11_sideLine_5 : decode cX11_sideLine 5 = .ok (.aload_n 0, 1) := by decide +kernel
theorem dX11_sideLine_6 : decode cX11_sideLine 6 = .ok (.getfield 37, 3) := by decide +kernel
theorem dX11_sideLine_9 : decode cX11_sideLine 9 = .ok (.iconst 4, 1) := by decide +kernel
theorem dX11_sideLine_10 : decode cX11_sideLine 10 = .ok (.aload_n 0, 1) := by decide +kernel
theorem dX11_sideLine_11 : decode cX11_sideLine 11 = .ok (.iconst 1, 1) := by decide +kernel
theorem dX11_sideLine_12 : decode cX11_sideLine 12 = .ok (.invokevirtual 231, 3) := by decide +kernel
theorem dX11_sideLine_15 : decode cX11_sideLine 15 = .ok (.iadd, 1) := by decide +kernel
theorem dX11_sideLine_16 : decode cX11_sideLine 16 = .ok (.aload_n 0, 1) := by decide +kernel
theorem dX11_sideLine_17 : decode cX11_sideLine 17 = .ok (.iconst 0, 1) := by decide +kernel
theorem dX11_sideLine_18 : decode cX11_sideLine 18 = .ok (.bipush 9, 2) := by decide +kernel
theorem dX11_sideLine_20 : decode cX11_sideLine 20 = .ok (.invokevirtual 246, 3) := by decide +kernel
theorem dX11_sideLine_23 : decode cX11_sideLine 23 = .ok (.iastore, 1) := by decide +kernel
theorem dX11_sideLine_24 : decode cX11_sideLine 24 = .ok (.aload_n 0, 1) := by decide +kernel
theorem dX11_sideLine_25 : decode cX11_sideLine 25 = .ok (.getfield 166, 3) := by decide +kernel
theorem dX11_sideLine_28 : decode cX11_sideLine 28 = .ok (.ifCond .ne 14, 3) := by decide +kernel
theorem dX11_sideLine_31 : decode cX11_sideLine 31 = .ok (.aload_n 0, 1) := by decide +kernel
theorem dX11_sideLine_32 : decode cX11_sideLine 32 = .ok (.getfield 13, 3) := by decide +kernel
theorem dX11_sideLine_35 : decode cX11_sideLine 35 = .ok (.bipush 7, 2) := by decide +kernel
theorem dX11_sideLine_37 : decode cX11_sideLine 37 = .ok (.dup2, 1) := by decide +kernel
theorem dX11_sideLine_38 : decode cX11_sideLine 38 = .ok (.iaload, 1) := by decide +kernel
theorem dX11_sideLine_39 : decode cX11_sideLine 39 = .ok (.iconst 1, 1) := by decide +kernel
theorem dX11_sideLine_40 : decode cX11_sideLine 40 = .ok (.iadd, 1) := by decide +kernel
theorem dX11_sideLine_41 : decode cX11_sideLine 41 = .ok (.iastore, 1) := by decide +kernel
theorem dX11_sideLine_42 : decode cX11_sideLine 42 = .ok (.return_, 1) := by decide +kernel
theorem dX11_pair_0 : decode cX11_pair 0 = .ok (.iconst 3, 1) := by decide +kernel
theorem dX11_pair_1 : decode cX11_pair 1 = .ok (.iload_n 1, 1) := by decide +kernel
theorem dX11_pair_2 : decode cX11_pair 2 = .ok (.imul, 1) := by decide +kernel
theorem dX11_pair_3 : decode cX11_pair 3 = .ok (.aload_n 0, 1) := by decide +kernel
theorem dX11_pair_4 : decode cX11_pair 4 = .ok (.getfield 49, 3) := by decide +kernel
theorem dX11_pair_7 : decode cX11_pair 7 = .ok (.iload_n 1, 1) := by decide +kernel
theorem dX11_pair_8 : decode cX11_pair 8 = .ok (.iaload, 1) := by decide +kernel
theorem dX11_pair_9 : decode cX11_pair 9 = .ok (.iadd, 1) := by decide +kernel
theorem dX11_pair_10 : decode cX11_pair 10 = .ok (.istore_n 2, 1) := by decide +kernel
theorem dX11_pair_11 : decode cX11_pair 11 = .ok (.aload_n 0, 1) := by decide +kernel
theorem dX11_pair_12 : decode cX11_pair 12 = .ok (.getfield 52, 3) := by decide +kernel
theorem dX11_pair_15 : decode cX11_pair 15 = .ok (.iload_n 2, 1) := by decide +kernel
theorem dX11_pair_16 : decode cX11_pair 16 = .ok (.aload_n 0, 1) := by decide +kernel
theorem dX11_pair_17 : decode cX11_pair 17 = .ok (.iconst 0, 1) := by decide +kernel
theorem dX11_pair_18 : decode cX11_pair 18 = .ok (.iconst 3, 1) := by decide +kernel
theorem dX11_pair_19 : decode cX11_pair 19 = .ok (.invokevirtual 246, 3) := by decide +kernel
theorem dX11_pair_22 : decode cX11_pair 22 = .ok (.iastore, 1) := by decide +kernel
theorem dX11_pair_23 : decode cX11_pair 23 = .ok (.aload_n 0, 1) := by decide +kernel
theorem dX11_pair_24 : decode cX11_pair 24 = .ok (.ldc 214, 2) := by decide +kernel
theorem dX11_pair_26 : decode cX11_pair 26 = .ok (.invokevirtual 253, 3) := by decide +kernel
theorem dX11_pair_29 : decode cX11_pair 29 = .ok (.aload_n 0, 1) := by decide +kernel
theorem dX11_pair_30 : decode cX11_pair 30 = .ok (.aload_n 0, 1) := by decide +kernel
theorem dX11_pair_31 : decode cX11_pair 31 = .ok (.getfield 142, 3) := by decide +kernel
theorem dX11_pair_34 : decode cX11_pair 34 = .ok (.iconst 2, 1) := by decide +kernel
theorem dX11_pair_35 : decode cX11_pair 35 = .ok (.if_icmp .ne 7, 3) := by decide +kernel
theorem dX11_pair_38 : decode cX11_pair 38 = .ok (.iconst 1, 1) := by decide +kernel
theorem dX11_pair_39 : decode cX11_pair 39 = .ok (.goto 4, 3) := by decide +kernel
theorem dX11_pair_42 : decode cX11_pair 42 = .ok (.iconst 0, 1) := by decide +kernel
theorem dX11_pair_43 : decode cX11_pair 43 = .ok (.iconst 1, 1) := by decide +kernel
theorem dX11_pair_44 : decode cX11_pair 44 = .ok (.invokevirtual 224, 3) := by decide +kernel
theorem dX11_pair_47 : decode cX11_pair 47 = .ok (.ifCond .eq 37, 3) := by decide +kernel
theorem dX11_pair_50 : decode cX11_pair 50 = .ok (.aload_n 0, 1) := by decide +kernel
theorem dX11_pair_51 : decode cX11_pair 51 = .ok (.aload_n 0, 1) := by decide +kernel
theorem dX11_pair_52 : decode cX11_pair 52 = .ok (.getfield 145, 3) := by decide +kernel
theorem dX11_pair_55 : decode cX11_pair 55 = .ok (.iconst 4, 1) := by decide +kernel
theorem dX11_pair_56 : decode cX11_pair 56 = .ok (.if_icmp .ge 20, 3) := by decide +kernel
theorem dX11_pair_59 : decode cX11_pair 59 = .ok (.aload_n 0, 1) := by decide +kernel
theorem dX11_pair_60 : decode cX11_pair 60 = .ok (.getfield 145, 3) := by decide +kernel
theorem dX11_pair_63 : decode cX11_pair 63 = .ok (.aload_n 0, 1) := by decide +kernel
theorem dX11_pair_64 : decode cX11_pair 64 = .ok (.getfield 52, 3) := by decide +kernel
theorem dX11_pair_67 : decode cX11_pair 67 = .ok (.iload_n 2, 1) := by decide +kernel
theorem dX11_pair_68 : decode cX11_pair 68 = .ok (.iaload, 1) := by decide +kernel
theorem dX11_pair_69 : decode cX11_pair 69 = .ok (.if_icmp .eq 7, 3) := by decide +kernel
theorem dX11_pair_72 : decode cX11_pair 72 = .ok (.iconst 1, 1) := by decide +kernel
theorem dX11_pair_73 : decode cX11_pair 73 = .ok (.goto 4, 3) := by decide +kernel
theorem dX11_pair_76 : decode cX11_pair 76 = .ok (.iconst 0, 1) := by decide +kernel
theorem dX11_pair_77 : decode cX11_pair 77 = .ok (.iconst 3, 1) := by decide +kernel
theorem dX11_pair_78 : decode cX11_pair 78 = .ok (.invokevirtual 224, 3) := by decide +kernel
theorem dX11_pair_81 : decode cX11_pair 81 = .ok (.ifCond .ne 4, 3) := by decide +kernel
theorem dX11_pair_84 : decode cX11_pair 84 = .ok (.return_, 1) := by decide +kernel
theorem dX11_pair_85 : decode cX11_pair 85 = .ok (.aload_n 0, 1) := by decide +kernel
theorem dX11_pair_86 : decode cX11_pair 86 = .ok (.getfield 55, 3) := by decide +kernel
theorem dX11_pair_89 : decode cX11_pair 89 = .ok (.iload_n 2, 1) := by decide +kernel
theorem dX11_pair_90 : decode cX11_pair 90 = .ok (.aload_n 0, 1) := by decide +kernel
theorem dX11_pair_91 : decode cX11_pair 91 = .ok (.getfield 145, 3) := by decide +kernel
theorem dX11_pair_94 : decode cX11_pair 94 = .ok (.iastore, 1) := by decide +kernel
theorem dX11_pair_95 : decode cX11_pair 95 = .ok (.aload_n 0, 1) := by decide +kernel
theorem dX11_pair_96 : decode cX11_pair 96 = .ok (.getfield 49, 3) := by decide +kernel
theorem dX11_pair_99 : decode cX11_pair 99 = .ok (.iload_n 1, 1) := by decide +kernel
theorem dX11_pair_100 : decode cX11_pair 100 = .ok (.dup2, 1) := by decide +kernel
theorem dX11_pair_101 : decode cX11_pair 101 = .ok (.iaload, 1) := by decide +kernel
theorem dX11_pair_102 : decode cX11_pair 102 = .ok (.iconst 1, 1) := by decide +kernel
theorem dX11_pair_103 : decode cX11_pair 103 = .ok (.iadd, 1) := by decide +kernel
theorem dX11_pair_104 : decode cX11_pair 104 = .ok (.iastore, 1) := by decide +kernel
theorem dX11_pair_105 : decode cX11_pair 105 = .ok (.aload_n 0, 1) := by decide +kernel
theorem dX11_pair_106 : decode cX11_pair 106 = .ok (.invokevirtual 228, 3) := by decide +kernel
theorem dX11_pair_109 : decode cX11_pair 109 = .ok (.return_, 1) := by decide +kernel
theorem dX11_kindLine_0 : decode cX11_kindLine 0 = .ok (.aload_n 0, 1) := by decide +kernel
theorem dX11_kindLine_1 : decode cX11_kindLine 1 = .ok (.iconst 2, 1) := by decide +kernel
theorem dX11_kindLine_2 : decode cX11_kindLine 2 = .ok (.invokevirtual 243, 3) := by decide +kernel
theorem dX11_kindLine_5 : decode cX11_kindLine 5 = .ok (.iconst 5, 1) := by decide +kernel
theorem dX11_kindLine_6 : decode cX11_kindLine 6 = .ok (.aload_n 0, 1) := by decide +kernel
theorem dX11_kindLine_7 : decode cX11_kindLine 7 = .ok (.iconst 2, 1) := by decide +kernel
theorem dX11_kindLine_8 : decode cX11_kindLine 8 = .ok (.invokevirtual 231, 3) := by decide +kernel
theorem dX11_kindLine_11 : decode cX11_kindLine 11 = .ok (.iadd, 1) := by decide +kernel
theorem dX11_kindLine_12 : decode cX11_kindLine 12 = .ok (.istore_n 1, 1) := by decide +kernel
theorem dX11_kindLine_13 : decode cX11_kindLine 13 = .ok (.aload_n 0, 1) := by decide +kernel
theorem dX11_kindLine_14 : decode cX11_kindLine 14 = .ok (.getfield 40, 3) := by decide +kernel
theorem dX11_kindLine_17 : decode cX11_kindLine 17 = .ok (.iload_n 1, 1) := by decide +kernel
theorem dX11_kindLine_18 : decode cX11_kindLine 18 = .ok (.aload_n 0, 1) := by decide +kernel
theorem dX11_kindLine_19 : decode cX11_kindLine 19 = .ok (.iconst 1, 1) := by decide +kernel
theorem dX11_kindLine_20 : decode cX11_kindLine 20 = .ok (.bipush 60, 2) := by decide +kernel
theorem dX11_kindLine_22 : decode cX11_kindLine 22 = .ok (.invokevirtual 246, 3) := by decide +kernel
theorem dX11_kindLine_25 : decode cX11_kindLine 25 = .ok (.iastore, 1) := by decide +kernel
theorem dX11_kindLine_26 : decode cX11_kindLine 26 = .ok (.aload_n 0, 1) := by decide +kernel
theorem dX11_kindLine_27 : decode cX11_kindLine 27 = .ok (.getfield 43, 3) := by decide +kernel
theorem dX11_kindLine_30 : decode cX11_kindLine 30 = .ok (.iload_n 1, 1) := by decide +kernel
theorem dX11_kindLine_31 : decode cX11_kindLine 31 = .ok (.aload_n 0, 1) := by decide +kernel
theorem dX11_kindLine_32 : decode cX11_kindLine 32 = .ok (.ldc 210, 2) := by decide +kernel
theorem dX11_kindLine_34 : decode cX11_kindLine 34 = .ok (.invokevirtual 257, 3) := by decide +kernel
theorem dX11_kindLine_37 : decode cX11_kindLine 37 = .ok (.bastore, 1) := by decide +kernel
theorem dX11_kindLine_38 : decode cX11_kindLine 38 = .ok (.aload_n 0, 1) := by decide +kernel
theorem dX11_kindLine_39 : decode cX11_kindLine 39 = .ok (.getfield 46, 3) := by decide +kernel
theorem dX11_kindLine_42 : decode cX11_kindLine 42 = .ok (.iload_n 1, 1) := by decide +kernel
theorem dX11_kindLine_43 : decode cX11_kindLine 43 = .ok (.aload_n 0, 1) := by decide +kernel
theorem dX11_kindLine_44 : decode cX11_kindLine 44 = .ok (.ldc 211, 2) := by decide +kernel
theorem dX11_kindLine_46 : decode cX11_kindLine 46 = .ok (.invokevirtual 257, 3) := by decide +kernel
theorem dX11_kindLine_49 : decode cX11_kindLine 49 = .ok (.bastore, 1) := by decide +kernel
theorem dX11_kindLine_50 : decode cX11_kindLine 50 = .ok (.aload_n 0, 1) := by decide +kernel
theorem dX11_kindLine_51 : decode cX11_kindLine 51 = .ok (.getfield 49, 3) := by decide +kernel
theorem dX11_kindLine_54 : decode cX11_kindLine 54 = .ok (.iload_n 1, 1) := by decide +kernel
theorem dX11_kindLine_55 : decode cX11_kindLine 55 = .ok (.iconst 0, 1) := by decide +kernel
theorem dX11_kindLine_56 : decode cX11_kindLine 56 = .ok (.iastore, 1) := by decide +kernel
theorem dX11_kindLine_57 : decode cX11_kindLine 57 = .ok (.aload_n 0, 1) := by decide +kernel
theorem dX11_kindLine_58 : decode cX11_kindLine 58 = .ok (.getfield 166, 3) := by decide +kernel
theorem dX11_kindLine_61 : decode cX11_kindLine 61 = .ok (.ifCond .ne 8, 3) := by decide +kernel
theorem dX11_kindLine_64 : decode cX11_kindLine 64 = .ok (.aload_n 0, 1) := by decide +kernel
theorem dX11_kindLine_65 : decode cX11_kindLine 65 = .ok (.iload_n 1, 1) := by decide +kernel
theorem dX11_kindLine_66 : decode cX11_kindLine 66 = .ok (.invokevirtual 260, 3) := by decide +kernel
theorem dX11_kindLine_69 : decode cX11_kindLine 69 = .ok (.aload_n 0, 1) := by decide +kernel
theorem dX11_kindLine_70 : decode cX11_kindLine 70 = .ok (.ldc 212, 2) := by decide +kernel
theorem dX11_kindLine_72 : decode cX11_kindLine 72 = .ok (.invokevirtual 188, 3) := by decide +kernel
theorem dX11_kindLine_75 : decode cX11_kindLine 75 = .ok (.ifCond .eq 39, 3) := by decide +kernel
theorem dX11_kindLine_78 : decode cX11_kindLine 78 = .ok (.aload_n 0, 1) := by decide +kernel
theorem dX11_kindLine_79 : decode cX11_kindLine 79 = .ok (.aload_n 0, 1) := by decide +kernel
theorem dX11_kindLine_80 : decode cX11_kindLine 80 = .ok (.getfield 49, 3) := by decide +kernel
theorem dX11_kindLine_83 : decode cX11_kindLine 83 = .ok (.iload_n 1, 1) := by decide +kernel
theorem dX11_kindLine_84 : decode cX11_kindLine 84 = .ok (.iaload, 1) := by decide +kernel
theorem dX11_kindLine_85 : decode cX11_kindLine 85 = .ok (.iconst 3, 1) := by decide +kernel
theorem dX11_kindLine_86 : decode cX11_kindLine 86 = .ok (.if_icmp .ge 7, 3) := by decide +kernel
theorem dX11_kindLine_89 : decode cX11_kindLine 89 = .ok (.iconst 1, 1) := by decide +kernel
theorem dX11_kindLine_90 : decode cX11_kindLine 90 = .ok (.goto 4, 3) := by decide +kernel
theorem dX11_kindLine_93 : decode cX11_kindLine 93 = .ok (.iconst 0, 1) := by decide +kernel
theorem dX11_kindLine_94 : decode cX11_kindLine 94 = .ok (.iconst 5, 1) := by decide +kernel
theorem dX11_kindLine_95 : decode cX11_kindLine 95 = .ok (.invokevirtual 224, 3) := by decide +kernel
theorem dX11_kindLine_98 : decode cX11_kindLine 98 = .ok (.ifCond .ne 4, 3) := by decide +kernel
theorem dX11_kindLine_101 : decode cX11_kindLine 101 = .ok (.return_, 1) := by decide +kernel
theorem dX11_kindLine_102 : decode cX11_kindLine 102 = .ok (.aload_n 0, 1) := by decide +kernel
theorem dX11_kindLine_103 : decode cX11_kindLine 103 = .ok (.invokevirtual 228, 3) := by decide +kernel
theorem dX11_kindLine_106 : decode cX11_kindLine 106 = .ok (.aload_n 0, 1) := by decide +kernel
theorem dX11_kindLine_107 : decode cX11_kindLine 107 = .ok (.iload_n 1, 1) := by decide +kernel
theorem dX11_kindLine_108 : decode cX11_kindLine 108 = .ok (.invokevirtual 260, 3) := by decide +kernel
theorem dX11_kindLine_111 : decode cX11_kindLine 111 = .ok (.goto (-42), 3) := by decide +kernel
theorem dX11_kindLine_114 : decode cX11_kindLine 114 = .ok (.aload_n 0, 1) := by decide +kernel
theorem dX11_kindLine_115 : decode cX11_kindLine 115 = .ok (.getfield 166, 3) := by decide +kernel
theorem dX11_kindLine_118 : decode cX11_kindLine 118 = .ok (.ifCond .ne 14, 3) := by decide +kernel
theorem dX11_kindLine_121 : decode cX11_kindLine 121 = .ok (.aload_n 0, 1) := by decide +kernel
theorem dX11_kindLine_122 : decode cX11_kindLine 122 = .ok (.getfield 13, 3) := by decide +kernel
theorem dX11_kindLine_125 : decode cX11_kindLine 125 = .ok (.bipush 8, 2) := by decide +kernel
theorem dX11_kindLine_127 : decode cX11_kindLine 127 = .ok (.dup2, 1) := by decide +kernel
theorem dX11_kindLine_128 : decode cX11_kindLine 128 = .ok (.iaload, 1) := by decide +kernel
theorem dX11_kindLine_129 : decode cX11_kindLine 129 = .ok (.iconst 1, 1) := by decide +kernel
theorem dX11_kindLine_130 : decode cX11_kindLine 130 = .ok (.iadd, 1) := by decide +kernel
theorem dX11_kindLine_131 : decode cX11_kindLine 131 = .ok (.iastore, 1) := by decide +kernel
theorem dX11_kindLine_132 : decode cX11_kindLine 132 = .ok (.return_, 1) := by decide +kernel
theorem dX11_member_0 : decode cX11_member 0 = .ok (.iconst 0, 1) := by decide +kernel
theorem dX11_member_1 : decode cX11_member 1 = .ok (.istore_n 1, 1) := by decide +kernel
theorem dX11_member_2 : decode cX11_member 2 = .ok (.aload_n 0, 1) := by decide +kernel
theorem dX11_member_3 : decode cX11_member 3 = .ok (.invokevirtual 228, 3) := by decide +kernel
theorem dX11_member_6 : decode cX11_member 6 = .ok (.iload_n 1, 1) := by decide +kernel
theorem dX11_member_7 : decode cX11_member 7 = .ok (.iconst 1, 1) := by decide +kernel
theorem dX11_member_8 : decode cX11_member 8 = .ok (.aload_n 0, 1) := by decide +kernel
theorem dX11_member_9 : decode cX11_member 9 = .ok (.iconst 0, 1) := by decide +kernel
theorem dX11_member_10 : decode cX11_member 10 = .ok (.invokevirtual 250, 3) := by decide +kernel
theorem dX11_member_13 : decode cX11_member 13 = .ok (.ishl, 1) := by decide +kernel
theorem dX11_member_14 : decode cX11_member 14 = .ok (.ior, 1) := by decide +kernel
theorem dX11_member_15 : decode cX11_member 15 = .ok (.istore_n 1, 1) := by decide +kernel
theorem dX11_member_16 : decode cX11_member 16 = .ok (.aload_n 0, 1) := by decide +kernel
theorem dX11_member_17 : decode cX11_member 17 = .ok (.getfield 166, 3) := by decide +kernel
theorem dX11_member_20 : decode cX11_member 20 = .ok (.ifCond .ne 12, 3) := by decide +kernel
theorem dX11_member_23 : decode cX11_member 23 = .ok (.aload_n 0, 1) := by decide +kernel
theorem dX11_member_24 : decode cX11_member 24 = .ok (.getfield 142, 3) := by decide +kernel
theorem dX11_member_27 : decode cX11_member 27 = .ok (.bipush 41, 2) := by decide +kernel
theorem dX11_member_29 : decode cX11_member 29 = .ok (.if_icmp .ne (-23), 3) := by decide +kernel
theorem dX11_member_32 : decode cX11_member 32 = .ok (.aload_n 0, 1) := by decide +kernel
theorem dX11_member_33 : decode cX11_member 33 = .ok (.getfield 166, 3) := by decide +kernel
theorem dX11_member_36 : decode cX11_member 36 = .ok (.ifCond .ne 7, 3) := by decide +kernel
theorem dX11_member_39 : decode cX11_member 39 = .ok (.aload_n 0, 1) := by decide +kernel
theorem dX11_member_40 : decode cX11_member 40 = .ok (.invokevirtual 228, 3) := by decide +kernel
theorem dX11_member_43 : decode cX11_member 43 = .ok (.iload_n 1, 1) := by decide +kernel
theorem dX11_member_44 : decode cX11_member 44 = .ok (.ireturn, 1) := by decide +kernel
theorem dX11_boardLine_0 : decode cX11_boardLine 0 = .ok (.aload_n 0, 1) := by decide +kernel
theorem dX11_boardLine_1 : decode cX11_boardLine 1 = .ok (.iconst 3, 1) := by decide +kernel
theorem dX11_boardLine_2 : decode cX11_boardLine 2 = .ok (.invokevirtual 243, 3) := by decide +kernel
theorem dX11_boardLine_5 : decode cX11_boardLine 5 = .ok (.iconst 3, 1) := by decide +kernel
theorem dX11_boardLine_6 : decode cX11_boardLine 6 = .ok (.aload_n 0, 1) := by decide +kernel
theorem dX11_boardLine_7 : decode cX11_boardLine 7 = .ok (.iconst 3, 1) := by decide +kernel
theorem dX11_boardLine_8 : decode cX11_boardLine 8 = .ok (.invokevirtual 231, 3) := by decide +kernel
theorem dX11_boardLine_11 : decode cX11_boardLine 11 = .ok (.iadd, 1) := by decide +kernel
theorem dX11_boardLine_12 : decode cX11_boardLine 12 = .ok (.istore_n 1, 1) := by decide +kernel
theorem dX11_boardLine_13 : decode cX11_boardLine 13 = .ok (.aload_n 0, 1) := by decide +kernel
theorem dX11_boardLine_14 : decode cX11_boardLine 14 = .ok (.getfield 58, 3) := by decide +kernel
theorem dX11_boardLine_17 : decode cX11_boardLine 17 = .ok (.iload_n 1, 1) := by decide +kernel
theorem dX11_boardLine_18 : decode cX11_boardLine 18 = .ok (.aload_n 0, 1) := by decide +kernel
theorem dX11_boardLine_19 : decode cX11_boardLine 19 = .ok (.iconst 1, 1) := by decide +kernel
theorem dX11_boardLine_20 : decode cX11_boardLine 20 = .ok (.bipush 9, 2) := by decide +kernel
theorem dX11_boardLine_22 : decode cX11_boardLine 22 = .ok (.invokevirtual 246, 3) := by decide +kernel
theorem dX11_boardLine_25 : decode cX11_boardLine 25 = .ok (.iastore, 1) := by decide +kernel
theorem dX11_boardLine_26 : decode cX11_boardLine 26 = .ok (.aload_n 0, 1) := by decide +kernel
theorem dX11_boardLine_27 : decode cX11_boardLine 27 = .ok (.getfield 61, 3) := by decide +kernel
theorem dX11_boardLine_30 : decode cX11_boardLine 30 = .ok (.iload_n 1, 1) := by decide +kernel
theorem dX11_boardLine_31 : decode cX11_boardLine 31 = .ok (.iconst 0, 1) := by decide +kernel
theorem dX11_boardLine_32 : decode cX11_boardLine 32 = .ok (.iastore, 1) := by decide +kernel
theorem dX11_boardLine_33 : decode cX11_boardLine 33 = .ok (.aload_n 0, 1) := by decide +kernel
theorem dX11_boardLine_34 : decode cX11_boardLine 34 = .ok (.aload_n 0, 1) := by decide +kernel
theorem dX11_boardLine_35 : decode cX11_boardLine 35 = .ok (.getfield 142, 3) := by decide +kernel
theorem dX11_boardLine_38 : decode cX11_boardLine 38 = .ok (.bipush 40, 2) := by decide +kernel
theorem dX11_boardLine_40 : decode cX11_boardLine 40 = .ok (.if_icmp .ne 7, 3) := by decide +kernel
theorem dX11_boardLine_43 : decode cX11_boardLine 43 = .ok (.iconst 1, 1) := by decide +kernel
theorem dX11_boardLine_44 : decode cX11_boardLine 44 = .ok (.goto 4, 3) := by decide +kernel
theorem dX11_boardLine_47 : decode cX11_boardLine 47 = .ok (.iconst 0, 1) := by decide +kernel
theorem dX11_boardLine_48 : decode cX11_boardLine 48 = .ok (.iconst 1, 1) := by decide +kernel
theorem dX11_boardLine_49 : decode cX11_boardLine 49 = .ok (.invokevirtual 224, 3) := by decide +kernel
theorem dX11_boardLine_52 : decode cX11_boardLine 52 = .ok (.ifCond .ne 4, 3) := by decide +kernel
theorem dX11_boardLine_55 : decode cX11_boardLine 55 = .ok (.return_, 1) := by decide +kernel
theorem dX11_boardLine_56 : decode cX11_boardLine 56 = .ok (.aload_n 0, 1) := by decide +kernel
theorem dX11_boardLine_57 : decode cX11_boardLine 57 = .ok (.getfield 166, 3) := by decide +kernel
theorem dX11_boardLine_60 : decode cX11_boardLine 60 = .ok (.ifCond .ne 70, 3) := by decide +kernel
theorem dX11_boardLine_63 : decode cX11_boardLine 63 = .ok (.aload_n 0, 1) := by decide +kernel
theorem dX11_boardLine_64 : decode cX11_boardLine 64 = .ok (.getfield 142, 3) := by decide +kernel
theorem dX11_boardLine_67 : decode cX11_boardLine 67 = .ok (.bipush 40, 2) := by decide +kernel
theorem dX11_boardLine_69 : decode cX11_boardLine 69 = .ok (.if_icmp .ne 61, 3) := by decide +kernel
theorem dX11_boardLine_72 : decode cX11_boardLine 72 = .ok (.aload_n 0, 1) := by decide +kernel
theorem dX11_boardLine_73 : decode cX11_boardLine 73 = .ok (.aload_n 0, 1) := by decide +kernel
theorem dX11_boardLine_74 : decode cX11_boardLine 74 = .ok (.getfield 61, 3) := by decide +kernel
theorem dX11_boardLine_77 : decode cX11_boardLine 77 = .ok (.iload_n 1, 1) := by decide +kernel
theorem dX11_boardLine_78 : decode cX11_boardLine 78 = .ok (.iaload, 1) := by decide +kernel
theorem dX11_boardLine_79 : decode cX11_boardLine 79 = .ok (.bipush 7, 2) := by decide +kernel
theorem dX11_boardLine_81 : decode cX11_boardLine 81 = .ok (.if_icmp .ge 7, 3) := by decide +kernel
theorem dX11_boardLine_84 : decode cX11_boardLine 84 = .ok (.iconst 1, 1) := by decide +kernel
theorem dX11_boardLine_85 : decode cX11_boardLine 85 = .ok (.goto 4, 3) := by decide +kernel
theorem dX11_boardLine_88 : decode cX11_boardLine 88 = .ok (.iconst 0, 1) := by decide +kernel
theorem dX11_boardLine_89 : decode cX11_boardLine 89 = .ok (.iconst 5, 1) := by decide +kernel
theorem dX11_boardLine_90 : decode cX11_boardLine 90 = .ok (.invokevirtual 224, 3) := by decide +kernel
theorem dX11_boardLine_93 : decode cX11_boardLine 93 = .ok (.ifCond .ne 4, 3) := by decide +kernel
theorem dX11_boardLine_96 : decode cX11_boardLine 96 = .ok (.return_, 1) := by decide +kernel
theorem dX11_boardLine_97 : decode cX11_boardLine 97 = .ok (.aload_n 0, 1) := by decide +kernel
theorem dX11_boardLine_98 : decode cX11_boardLine 98 = .ok (.getfield 64, 3) := by decide +kernel
theorem dX11_boardLine_101 : decode cX11_boardLine 101 = .ok (.bipush 7, 2) := by decide +kernel
theorem dX11_boardLine_103 : decode cX11_boardLine 103 = .ok (.iload_n 1, 1) := by decide +kernel
theorem dX11_boardLine_104 : decode cX11_boardLine 104 = .ok (.imul, 1) := by decide +kernel
theorem dX11_boardLine_105 : decode cX11_boardLine 105 = .ok (.aload_n 0, 1) := by decide +kernel
theorem dX11_boardLine_106 : decode cX11_boardLine 106 = .ok (.getfield 61, 3) := by decide +kernel
theorem dX11_boardLine_109 : decode cX11_boardLine 109 = .ok (.iload_n 1, 1) := by decide +kernel
theorem dX11_boardLine_110 : decode cX11_boardLine 110 = .ok (.iaload, 1) := by decide +kernel
theorem dX11_boardLine_111 : decode cX11_boardLine 111 = .ok (.iadd, 1) := by decide +kernel
theorem dX11_boardLine_112 : decode cX11_boardLine 112 = .ok (.aload_n 0, 1) := by decide +kernel
theorem dX11_boardLine_113 : decode cX11_boardLine 113 = .ok (.invokevirtual 263, 3) := by decide +kernel
theorem dX11_boardLine_116 : decode cX11_boardLine 116 = .ok (.iastore, 1) := by decide +kernel
theorem dX11_boardLine_117 : decode cX11_boardLine 117 = .ok (.aload_n 0, 1) := by decide +kernel
theorem dX11_boardLine_118 : decode cX11_boardLine 118 = .ok (.getfield 61, 3) := by decide +kernel
theorem dX11_boardLine_121 : decode cX11_boardLine 121 = .ok (.iload_n 1, 1) := by decide +kernel
theorem dX11_boardLine_122 : decode cX11_boardLine 122 = .ok (.dup2, 1) := by decide +kernel
theorem dX11_boardLine_123 : decode cX11_boardLine 123 = .ok (.iaload, 1) := by decide +kernel
theorem dX11_boardLine_124 : decode cX11_boardLine 124 = .ok (.iconst 1, 1) := by decide +kernel
theorem dX11_boardLine_125 : decode cX11_boardLine 125 = .ok (.iadd, 1) := by decide +kernel
theorem dX11_boardLine_126 : decode cX11_boardLine 126 = .ok (.iastore, 1) := by decide +kernel
theorem dX11_boardLine_127 : decode cX11_boardLine 127 = .ok (.goto (-71), 3) := by decide +kernel
theorem dX11_boardLine_130 : decode cX11_boardLine 130 = .ok (.aload_n 0, 1) := by decide +kernel
theorem dX11_boardLine_131 : decode cX11_boardLine 131 = .ok (.getfield 166, 3) := by decide +kernel
theorem dX11_boardLine_134 : decode cX11_boardLine 134 = .ok (.ifCond .ne 14, 3) := by decide +kernel
theorem dX11_boardLine_137 : decode cX11_boardLine 137 = .ok (.aload_n 0, 1) := by decide +kernel
theorem dX11_boardLine_138 : decode cX11_boardLine 138 = .ok (.getfield 13, 3) := by decide +kernel
theorem dX11_boardLine_141 : decode cX11_boardLine 141 = .ok (.bipush 9, 2) := by decide +kernel
theorem dX11_boardLine_143 : decode cX11_boardLine 143 = .ok (.dup2, 1) := by decide +kernel
theorem dX11_boardLine_144 : decode cX11_boardLine 144 = .ok (.iaload, 1) := by decide +kernel
theorem dX11_boardLine_145 : decode cX11_boardLine 145 = .ok (.iconst 1, 1) := by decide +kernel
theorem dX11_boardLine_146 : decode cX11_boardLine 146 = .ok (.iadd, 1) := by decide +kernel
theorem dX11_boardLine_147 : decode cX11_boardLine 147 = .ok (.iastore, 1) := by decide +kernel
theorem dX11_boardLine_148 : decode cX11_boardLine 148 = .ok (.return_, 1) := by decide +kernel
theorem dX11_readFrame_0 : decode cX11_readFrame 0 = .ok (.bipush 10, 2) := by decide +kernel
theorem dX11_readFrame_2 : decode cX11_readFrame 2 = .ok (.iload_n 1, 1) := by decide +kernel
theorem dX11_readFrame_3 : decode cX11_readFrame 3 = .ok (.imul, 1) := by decide +kernel
theorem dX11_readFrame_4 : decode cX11_readFrame 4 = .ok (.aload_n 0, 1) := by decide +kernel
theorem dX11_readFrame_5 : decode cX11_readFrame 5 = .ok (.getfield 82, 3) := by decide +kernel
theorem dX11_readFrame_8 : decode cX11_readFrame 8 = .ok (.iload_n 1, 1) := by decide +kernel
theorem dX11_readFrame_9 : decode cX11_readFrame 9 = .ok (.iaload, 1) := by decide +kernel
theorem dX11_readFrame_10 : decode cX11_readFrame 10 = .ok (.iadd, 1) := by decide +kernel
theorem dX11_readFrame_11 : decode cX11_readFrame 11 = .ok (.istore_n 2, 1) := by decide +kernel
theorem dX11_readFrame_12 : decode cX11_readFrame 12 = .ok (.aload_n 0, 1) := by decide +kernel
theorem dX11_readFrame_13 : decode cX11_readFrame 13 = .ok (.iconst 0, 1) := by decide +kernel
theorem dX11_readFrame_14 : decode cX11_readFrame 14 = .ok (.invokevirtual 240, 3) := by decide +kernel
theorem dX11_readFrame_17 : decode cX11_readFrame 17 = .ok (.istore_n 3, 1) := by decide +kernel
theorem dX11_readFrame_18 : decode cX11_readFrame 18 = .ok (.aload_n 0, 1) := by decide +kernel
theorem dX11_readFrame_19 : decode cX11_readFrame 19 = .ok (.aload_n 0, 1) := by decide +kernel
theorem dX11_readFrame_20 : decode cX11_readFrame 20 = .ok (.getfield 82, 3) := by decide +kernel
theorem dX11_readFrame_23 : decode cX11_readFrame 23 = .ok (.iload_n 1, 1) := by decide +kernel
theorem dX11_readFrame_24 : decode cX11_readFrame 24 = .ok (.iaload, 1) := by decide +kernel
theorem dX11_readFrame_25 : decode cX11_readFrame 25 = .ok (.bipush 10, 2) := by decide +kernel
theorem dX11_readFrame_27 : decode cX11_readFrame 27 = .ok (.if_icmp .ge 7, 3) := by decide +kernel
theorem dX11_readFrame_30 : decode cX11_readFrame 30 = .ok (.iconst 1, 1) := by decide +kernel
theorem dX11_readFrame_31 : decode cX11_readFrame 31 = .ok (.goto 4, 3) := by decide +kernel
theorem dX11_readFrame_34 : decode cX11_readFrame 34 = .ok (.iconst 0, 1) := by decide +kernel
theorem dX11_readFrame_35 : decode cX11_readFrame 35 = .ok (.iconst 5, 1) := by decide +kernel
theorem dX11_readFrame_36 : decode cX11_readFrame 36 = .ok (.invokevirtual 224, 3) := by decide +kernel
theorem dX11_readFrame_39 : decode cX11_readFrame 39 = .ok (.ifCond .ne 4, 3) := by decide +kernel
theorem dX11_readFrame_42 : decode cX11_readFrame 42 = .ok (.return_, 1) := by decide +kernel
theorem dX11_readFrame_43 : decode cX11_readFrame 43 = .ok (.aload_n 0, 1) := by decide +kernel
theorem dX11_readFrame_44 : decode cX11_readFrame 44 = .ok (.getfield 85, 3) := by decide +kernel
theorem dX11_readFrame_47 : decode cX11_readFrame 47 = .ok (.iload_n 2, 1) := by decide +kernel
theorem dX11_readFrame_48 : decode cX11_readFrame 48 = .ok (.iload_n 3, 1) := by decide +kernel
theorem dX11_readFrame_49 : decode cX11_readFrame 49 = .ok (.iastore, 1) := by decide +kernel
theorem dX11_readFrame_50 : decode cX11_readFrame 50 = .ok (.aload_n 0, 1) := by decide +kernel
theorem dX11_readFrame_51 : decode cX11_readFrame 51 = .ok (.invokevirtual 228, 3) := by decide +kernel
theorem dX11_readFrame_54 : decode cX11_readFrame 54 = .ok (.aload_n 0, 1) := by decide +kernel
theorem dX11_readFrame_55 : decode cX11_readFrame 55 = .ok (.getfield 88, 3) := by decide +kernel
theorem dX11_readFrame_58 : decode cX11_readFrame 58 = .ok (.iload_n 2, 1) := by decide +kernel
theorem dX11_readFrame_59 : decode cX11_readFrame 59 = .ok (.aload_n 0, 1) := by decide +kernel
theorem dX11_readFrame_60 : decode cX11_readFrame 60 = .ok (.iconst 0, 1) := by decide +kernel
theorem dX11_readFrame_61 : decode cX11_readFrame 61 = .ok (.sipush 999, 3) := by decide +kernel
theorem dX11_readFrame_64 : decode cX11_readFrame 64 = .ok (.invokevirtual 246, 3) := by decide +kernel
theorem dX11_readFrame_67 : decode cX11_readFrame 67 = .ok (.iastore, 1) := by decide +kernel
theorem dX11_readFrame_68 : decode cX11_readFrame 68 = .ok (.aload_n 0, 1) := by decide +kernel
theorem dX11_readFrame_69 : decode cX11_readFrame 69 = .ok (.getfield 91, 3) := by decide +kernel
theorem dX11_readFrame_72 : decode cX11_readFrame 72 = .ok (.iload_n 2, 1) := by decide +kernel
theorem dX11_readFrame_73 : decode cX11_readFrame 73 = .ok (.iconst 0, 1) := by decide +kernel
theorem dX11_readFrame_74 : decode cX11_readFrame 74 = .ok (.iastore, 1) := by decide +kernel
theorem dX11_readFrame_75 : decode cX11_readFrame 75 = .ok (.aload_n 0, 1) := by decide +kernel
theorem dX11_readFrame_76 : decode cX11_readFrame 76 = .ok (.getfield 94, 3) := by decide +kernel
theorem dX11_readFrame_79 : decode cX11_readFrame 79 = .ok (.iload_n 2, 1) := by decide +kernel
theorem dX11_readFrame_80 : decode cX11_readFrame 80 = .ok (.iconst 0, 1) := by decide +kernel
theorem dX11_readFrame_81 : decode cX11_readFrame 81 = .ok (.iastore, 1) := by decide +kernel
theorem dX11_readFrame_82 : decode cX11_readFrame 82 = .ok (.aload_n 0, 1) := by decide +kernel
theorem dX11_readFrame_83 : decode cX11_readFrame 83 = .ok (.getfield 166, 3) := by decide +kernel
theorem dX11_readFrame_86 : decode cX11_readFrame 86 = .ok (.ifCond .ne 152, 3) := by decide +kernel
theorem dX11_readFrame_89 : decode cX11_readFrame 89 = .ok (.aload_n 0, 1) := by decide +kernel
theorem dX11_readFrame_90 : decode cX11_readFrame 90 = .ok (.getfield 142, 3) := by decide +kernel
theorem dX11_readFrame_93 : decode cX11_readFrame 93 = .ok (.bipush 33, 2) := by decide +kernel
theorem dX11_readFrame_95 : decode cX11_readFrame 95 = .ok (.if_icmp .eq 12, 3) := by decide +kernel
theorem dX11_readFrame_98 : decode cX11_readFrame 98 = .ok (.aload_n 0, 1) := by decide +kernel
theorem dX11_readFrame_99 : decode cX11_readFrame 99 = .ok (.getfield 142, 3) := by decide +kernel
theorem dX11_readFrame_102 : decode cX11_readFrame 102 = .ok (.bipush 63, 2) := by decide +kernel
theorem dX11_readFrame_104 : decode cX11_readFrame 104 = .ok (.if_icmp .ne 134, 3) := by decide +kernel
theorem dX11_readFrame_107 : decode cX11_readFrame 107 = .ok (.aload_n 0, 1) := by decide +kernel
theorem dX11_readFrame_108 : decode cX11_readFrame 108 = .ok (.getfield 142, 3) := by decide +kernel
theorem dX11_readFrame_111 : decode cX11_readFrame 111 = .ok (.bipush 33, 2) := by decide +kernel
theorem dX11_readFrame_113 : decode cX11_readFrame 113 = .ok (.if_icmp .ne 7, 3) := by decide +kernel
theorem dX11_readFrame_116 : decode cX11_readFrame 116 = .ok (.iconst 1, 1) := by decide +kernel
theorem dX11_readFrame_117 : decode cX11_readFrame 117 = .ok (.goto 4, 3) := by decide +kernel
theorem dX11_readFrame_120 : decode cX11_readFrame 120 = .ok (.iconst 0, 1) := by decide +kernel
theorem dX11_readFrame_121 : decode cX11_readFrame 121 = .ok (.istore 4, 2) := by decide +kernel
theorem dX11_readFrame_123 : decode cX11_readFrame 123 = .ok (.aload_n 0, 1) := by decide +kernel
theorem dX11_readFrame_124 : decode cX11_readFrame 124 = .ok (.invokevirtual 228, 3) := by decide +kernel
theorem dX11_readFrame_127 : decode cX11_readFrame 127 = .ok (.aload_n 0, 1) := by decide +kernel
theorem dX11_readFrame_128 : decode cX11_readFrame 128 = .ok (.aload_n 0, 1) := by decide +kernel
theorem dX11_readFrame_129 : decode cX11_readFrame 129 = .ok (.getfield 142, 3) := by decide +kernel
theorem dX11_readFrame_132 : decode cX11_readFrame 132 = .ok (.iconst 2, 1) := by decide +kernel
theorem dX11_readFrame_133 : decode cX11_readFrame 133 = .ok (.if_icmp .ne 7, 3) := by decide +kernel
theorem dX11_readFrame_136 : decode cX11_readFrame 136 = .ok (.iconst 1, 1) := by decide +kernel
theorem dX11_readFrame_137 : decode cX11_readFrame 137 = .ok (.goto 4, 3) := by decide +kernel
theorem dX11_readFrame_140 : decode cX11_readFrame 140 = .ok (.iconst 0, 1) := by decide +kernel
theorem dX11_readFrame_141 : decode cX11_readFrame 141 = .ok (.iconst 1, 1) := by decide +kernel
theorem dX11_readFrame_142 : decode cX11_readFrame 142 = .ok (.invokevirtual 224, 3) := by decide +kernel
theorem dX11_readFrame_145 : decode cX11_readFrame 145 = .ok (.ifCond .eq 47, 3) := by decide +kernel
theorem dX11_readFrame_148 : decode cX11_readFrame 148 = .ok (.aload_n 0, 1) := by decide +kernel
theorem dX11_readFrame_149 : decode cX11_readFrame 149 = .ok (.aload_n 0, 1) := by decide +kernel
theorem dX11_readFrame_150 : decode cX11_readFrame 150 = .ok (.getfield 145, 3) := by decide +kernel
theorem dX11_readFrame_153 : decode cX11_readFrame 153 = .ok (.iconst 4, 1) := by decide +kernel
theorem dX11_readFrame_154 : decode cX11_readFrame 154 = .ok (.if_icmp .ge 30, 3) := by decide +kernel
theorem dX11_readFrame_157 : decode cX11_readFrame 157 = .ok (.aload_n 0, 1) := by decide +kernel
theorem dX11_readFrame_158 : decode cX11_readFrame 158 = .ok (.getfield 91, 3) := by decide +kernel
theorem dX11_readFrame_161 : decode cX11_readFrame 161 = .ok (.iload_n 2, 1) := by decide +kernel
theorem dX11_readFrame_162 : decode cX11_readFrame 162 = .ok (.iaload, 1) := by decide +kernel
theorem dX11_readFrame_163 : decode cX11_readFrame 163 = .ok (.aload_n 0, 1) := by decide +kernel
theorem dX11_readFrame_164 : decode cX11_readFrame 164 = .ok (.getfield 94, 3) := by decide +kernel
theorem dX11_readFrame_167 : decode cX11_readFrame 167 = .ok (.iload_n 2, 1) := by decide +kernel
theorem dX11_readFrame_168 : decode cX11_readFrame 168 = .ok (.iaload, 1) := by decide +kernel
theorem dX11_readFrame_169 : decode cX11_readFrame 169 = .ok (.ior, 1) := by decide +kernel
theorem dX11_readFrame_170 : decode cX11_readFrame 170 = .ok (.aload_n 0, 1) := by decide +kernel
theorem dX11_readFrame_171 : decode cX11_readFrame 171 = .ok (.getfield 145, 3) := by decide +kernel
theorem dX11_readFrame_174 : decode cX11_readFrame 174 = .ok (.invokestatic 266, 3) := by decide +kernel
theorem dX11_readFrame_177 : decode cX11_readFrame 177 = .ok (.ifCond .ne 7, 3) := by decide +kernel
theorem dX11_readFrame_180 : decode cX11_readFrame 180 = .ok (.iconst 1, 1) := by decide +kernel
theorem dX11_readFrame_181 : decode cX11_readFrame 181 = .ok (.goto 4, 3) := by decide +kernel
theorem dX11_readFrame_184 : decode cX11_readFrame 184 = .ok (.iconst 0, 1) := by decide +kernel
theorem dX11_readFrame_185 : decode cX11_readFrame 185 = .ok (.iconst 3, 1) := by decide +kernel
theorem dX11_readFrame_186 : decode cX11_readFrame 186 = .ok (.invokevirtual 224, 3) := by decide +kernel
theorem dX11_readFrame_189 : decode cX11_readFrame 189 = .ok (.ifCond .ne 4, 3) := by decide +kernel
theorem dX11_readFrame_192 : decode cX11_readFrame 192 = .ok (.return_, 1) := by decide +kernel
theorem dX11_readFrame_193 : decode cX11_readFrame 193 = .ok (.iload 4, 2) := by decide +kernel
theorem dX11_readFrame_195 : decode cX11_readFrame 195 = .ok (.ifCond .eq 21, 3) := by decide +kernel
theorem dX11_readFrame_198 : decode cX11_readFrame 198 = .ok (.aload_n 0, 1) := by decide +kernel
theorem dX11_readFrame_199 : decode cX11_readFrame 199 = .ok (.getfield 91, 3) := by decide +kernel
theorem dX11_readFrame_202 : decode cX11_readFrame 202 = .ok (.iload_n 2, 1) := by decide +kernel
theorem dX11_readFrame_203 : decode cX11_readFrame 203 = .ok (.dup2, 1) := by decide +kernel
theorem dX11_readFrame_204 : decode cX11_readFrame 204 = .ok (.iaload, 1) := by decide +kernel
theorem dX11_readFrame_205 : decode cX11_readFrame 205 = .ok (.iconst 1, 1) := by decide +kernel
theorem dX11_readFrame_206 : decode cX11_readFrame 206 = .ok (.aload_n 0, 1) := by decide +kernel
theorem dX11_readFrame_207 : decode cX11_readFrame 207 = .ok (.getfield 145, 3) := by decide +kernel
theorem dX11_readFrame_210 : decode cX11_readFrame 210 = .ok (.ishl, 1) := by decide +kernel
theorem dX11_readFrame_211 : decode cX11_readFrame 211 = .ok (.ior, 1) := by decide +kernel
theorem dX11_readFrame_212 : decode cX11_readFrame 212 = .ok (.iastore, 1) := by decide +kernel
theorem dX11_readFrame_213 : decode cX11_readFrame 213 = .ok (.goto 18, 3) := by decide +kernel
theorem dX11_readFrame_216 : decode cX11_readFrame 216 = .ok (.aload_n 0, 1) := by decide +kernel
theorem dX11_readFrame_217 : decode cX11_readFrame 217 = .ok (.getfield 94, 3) := by decide +kernel
theorem dX11_readFrame_220 : decode cX11_readFrame 220 = .ok (.iload_n 2, 1) := by decide +kernel
theorem dX11_readFrame_221 : decode cX11_readFrame 221 = .ok (.dup2, 1) := by decide +kernel
theorem dX11_readFrame_222 : decode cX11_readFrame 222 = .ok (.iaload, 1) := by decide +kernel
theorem dX11_readFrame_223 : decode cX11_readFrame 223 = .ok (.iconst 1, 1) := by decide +kernel
theorem dX11_readFrame_224 : decode cX11_readFrame 224 = .ok (.aload_n 0, 1) := by decide +kernel
theorem dX11_readFrame_225 : decode cX11_readFrame 225 = .ok (.getfield 145, 3) := by decide +kernel
theorem dX11_readFrame_228 : decode cX11_readFrame 228 = .ok (.ishl, 1) := by decide +kernel
theorem dX11_readFrame_229 : decode cX11_readFrame 229 = .ok (.ior, 1) := by decide +kernel
theorem dX11_readFrame_230 : decode cX11_readFrame 230 = .ok (.iastore, 1) := by decide +kernel
theorem dX11_readFrame_231 : decode cX11_readFrame 231 = .ok (.aload_n 0, 1) := by decide +kernel
theorem dX11_readFrame_232 : decode cX11_readFrame 232 = .ok (.invokevirtual 228, 3) := by decide +kernel
theorem dX11_readFrame_235 : decode cX11_readFrame 235 = .ok (.goto (-153), 3) := by decide +kernel
theorem dX11_readFrame_238 : decode cX11_readFrame 238 = .ok (.aload_n 0, 1) := by decide +kernel
theorem dX11_readFrame_239 : decode cX11_readFrame 239 = .ok (.getfield 82, 3) := by decide +kernel
theorem dX11_readFrame_242 : decode cX11_readFrame 242 = .ok (.iload_n 1, 1) := by decide +kernel
theorem dX11_readFrame_243 : decode cX11_readFrame 243 = .ok (.dup2, 1) := by decide +kernel
theorem dX11_readFrame_244 : decode cX11_readFrame 244 = .ok (.iaload, 1) := by decide +kernel
theorem dX11_readFrame_245 : decode cX11_readFrame 245 = .ok (.iconst 1, 1) := by decide +kernel
theorem dX11_readFrame_246 : decode cX11_readFrame 246 = .ok (.iadd, 1) := by decide +kernel
theorem dX11_readFrame_247 : decode cX11_readFrame 247 = .ok (.iastore, 1) := by decide +kernel
theorem dX11_readFrame_248 : decode cX11_readFrame 248 = .ok (.return_, 1) := by decide +kernel
theorem dX11_playLine_0 : decode cX11_playLine 0 = .ok (.aload_n 0, 1) := by decide +kernel
theorem dX11_playLine_1 : decode cX11_playLine 1 = .ok (.iconst 4, 1) := by decide +kernel
theorem dX11_playLine_2 : decode cX11_playLine 2 = .ok (.invokevirtual 243, 3) := by decide +kernel
theorem dX11_playLine_5 : decode cX11_playLine 5 = .ok (.bipush 8, 2) := by decide +kernel
theorem dX11_playLine_7 : decode cX11_playLine 7 = .ok (.aload_n 0, 1) := by decide +kernel
theorem dX11_playLine_8 : decode cX11_playLine 8 = .ok (.iconst 4, 1) := by decide +kernel
theorem dX11_playLine_9 : decode cX11_playLine 9 = .ok (.invokevirtual 231, 3) := by decide +kernel
theorem dX11_playLine_12 : decode cX11_playLine 12 = .ok (.iadd, 1) := by decide +kernel
theorem dX11_playLine_13 : decode cX11_playLine 13 = .ok (.istore_n 1, 1) := by decide +kernel
theorem dX11_playLine_14 : decode cX11_playLine 14 = .ok (.aload_n 0, 1) := by decide +kernel
theorem dX11_playLine_15 : decode cX11_playLine 15 = .ok (.getfield 67, 3) := by decide +kernel
theorem dX11_playLine_18 : decode cX11_playLine 18 = .ok (.iload_n 1, 1) := by decide +kernel
theorem dX11_playLine_19 : decode cX11_playLine 19 = .ok (.aload_n 0, 1) := by decide +kernel
theorem dX11_playLine_20 : decode cX11_playLine 20 = .ok (.aload_n 0, 1) := by decide +kernel
theorem dX11_playLine_21 : decode cX11_playLine 21 = .ok (.iconst 4, 1) := by decide +kernel
theorem dX11_playLine_22 : decode cX11_playLine 22 = .ok (.invokevirtual 231, 3) := by decide +kernel
theorem dX11_playLine_25 : decode cX11_playLine 25 = .ok (.ifCond .ne 7, 3) := by decide +kernel
theorem dX11_playLine_28 : decode cX11_playLine 28 = .ok (.iconst 0, 1) := by decide +kernel
theorem dX11_playLine_29 : decode cX11_playLine 29 = .ok (.goto 11, 3) := by decide +kernel
theorem dX11_playLine_32 : decode cX11_playLine 32 = .ok (.aload_n 0, 1) := by decide +kernel
theorem dX11_playLine_33 : decode cX11_playLine 33 = .ok (.getfield 67, 3) := by decide +kernel
theorem dX11_playLine_36 : decode cX11_playLine 36 = .ok (.iload_n 1, 1) := by decide +kernel
theorem dX11_playLine_37 : decode cX11_playLine 37 = .ok (.iconst 1, 1) := by decide +kernel
theorem dX11_playLine_38 : decode cX11_playLine 38 = .ok (.isub, 1) := by decide +kernel
theorem dX11_playLine_39 : decode cX11_playLine 39 = .ok (.iaload, 1) := by decide +kernel
theorem dX11_playLine_40 : decode cX11_playLine 40 = .ok (.sipush 999, 3) := by decide +kernel
theorem dX11_playLine_43 : decode cX11_playLine 43 = .ok (.invokevirtual 246, 3) := by decide +kernel
theorem dX11_playLine_46 : decode cX11_playLine 46 = .ok (.iastore, 1) := by decide +kernel
theorem dX11_playLine_47 : decode cX11_playLine 47 = .ok (.aload_n 0, 1) := by decide +kernel
theorem dX11_playLine_48 : decode cX11_playLine 48 = .ok (.getfield 70, 3) := by decide +kernel
theorem dX11_playLine_51 : decode cX11_playLine 51 = .ok (.iload_n 1, 1) := by decide +kernel
theorem dX11_playLine_52 : decode cX11_playLine 52 = .ok (.aload_n 0, 1) := by decide +kernel
theorem dX11_playLine_53 : decode cX11_playLine 53 = .ok (.iconst 2, 1) := by decide +kernel
theorem dX11_playLine_54 : decode cX11_playLine 54 = .ok (.invokevirtual 250, 3) := by decide +kernel
theorem dX11_playLine_57 : decode cX11_playLine 57 = .ok (.iastore, 1) := by decide +kernel
theorem dX11_playLine_58 : decode cX11_playLine 58 = .ok (.aload_n 0, 1) := by decide +kernel
theorem dX11_playLine_59 : decode cX11_playLine 59 = .ok (.getfield 73, 3) := by decide +kernel
theorem dX11_playLine_62 : decode cX11_playLine 62 = .ok (.iload_n 1, 1) := by decide +kernel
theorem dX11_playLine_63 : decode cX11_playLine 63 = .ok (.aload_n 0, 1) := by decide +kernel
theorem dX11_playLine_64 : decode cX11_playLine 64 = .ok (.iconst 1, 1) := by decide +kernel
theorem dX11_playLine_65 : decode cX11_playLine 65 = .ok (.invokevirtual 250, 3) := by decide +kernel
theorem dX11_playLine_68 : decode cX11_playLine 68 = .ok (.iastore, 1) := by decide +kernel
theorem dX11_playLine_69 : decode cX11_playLine 69 = .ok (.aload_n 0, 1) := by decide +kernel
theorem dX11_playLine_70 : decode cX11_playLine 70 = .ok (.getfield 76, 3) := by decide +kernel
theorem dX11_playLine_73 : decode cX11_playLine 73 = .ok (.iload_n 1, 1) := by decide +kernel
theorem dX11_playLine_74 : decode cX11_playLine 74 = .ok (.aload_n 0, 1) := by decide +kernel
theorem dX11_playLine_75 : decode cX11_playLine 75 = .ok (.iconst 0, 1) := by decide +kernel
theorem dX11_playLine_76 : decode cX11_playLine 76 = .ok (.bipush 99, 2) := by decide +kernel
theorem dX11_playLine_78 : decode cX11_playLine 78 = .ok (.invokevirtual 246, 3) := by decide +kernel
theorem dX11_playLine_81 : decode cX11_playLine 81 = .ok (.iastore, 1) := by decide +kernel
theorem dX11_playLine_82 : decode cX11_playLine 82 = .ok (.aload_n 0, 1) := by decide +kernel
theorem dX11_playLine_83 : decode cX11_playLine 83 = .ok (.aload_n 0, 1) := by decide +kernel
theorem dX11_playLine_84 : decode cX11_playLine 84 = .ok (.ldc 216, 2) := by decide +kernel
theorem dX11_playLine_86 : decode cX11_playLine 86 = .ok (.invokevirtual 188, 3) := by decide +kernel
theorem dX11_playLine_89 : decode cX11_playLine 89 = .ok (.ifCond .ne 12, 3) := by decide +kernel
theorem dX11_playLine_92 : decode cX11_playLine 92 = .ok (.aload_n 0, 1) := by decide +kernel
theorem dX11_playLine_93 : decode cX11_playLine 93 = .ok (.ldc 218, 2) := by decide +kernel
theorem dX11_playLine_95 : decode cX11_playLine 95 = .ok (.invokevirtual 188, 3) := by decide +kernel
theorem dX11_playLine_98 : decode cX11_playLine 98 = .ok (.ifCond .eq 7, 3) := by decide +kernel
theorem dX11_playLine_101 : decode cX11_playLine 101 = .ok (.iconst 1, 1) := by decide +kernel
theorem dX11_playLine_102 : decode cX11_playLine 102 = .ok (.goto 4, 3) := by decide +kernel
theorem dX11_playLine_105 : decode cX11_playLine 105 = .ok (.iconst 0, 1) := by decide +kernel
theorem dX11_playLine_106 : decode cX11_playLine 106 = .ok (.iconst 1, 1) := by decide +kernel
theorem dX11_playLine_107 : decode cX11_playLine 107 = .ok (.invokevirtual 224, 3) := by decide +kernel
theorem dX11_playLine_110 : decode cX11_playLine 110 = .ok (.ifCond .ne 4, 3) := by decide +kernel
theorem dX11_playLine_113 : decode cX11_playLine 113 = .ok (.return_, 1) := by decide +kernel
theorem dX11_playLine_114 : decode cX11_playLine 114 = .ok (.aload_n 0, 1) := by decide +kernel
theorem dX11_playLine_115 : decode cX11_playLine 115 = .ok (.getfield 79, 3) := by decide +kernel
theorem dX11_playLine_118 : decode cX11_playLine 118 = .ok (.iload_n 1, 1) := by decide +kernel
theorem dX11_playLine_119 : decode cX11_playLine 119 = .ok (.aload_n 0, 1) := by decide +kernel
theorem dX11_playLine_120 : decode cX11_playLine 120 = .ok (.ldc 216, 2) := by decide +kernel
theorem dX11_playLine_122 : decode cX11_playLine 122 = .ok (.invokevirtual 188, 3) := by decide +kernel
theorem dX11_playLine_125 : decode cX11_playLine 125 = .ok (.ifCond .eq 7, 3) := by decide +kernel
theorem dX11_playLine_128 : decode cX11_playLine 128 = .ok (.iconst 1, 1) := by decide +kernel
theorem dX11_playLine_129 : decode cX11_playLine 129 = .ok (.goto 4, 3) := by decide +kernel
theorem dX11_playLine_132 : decode cX11_playLine 132 = .ok (.iconst 0, 1) := by decide +kernel
theorem dX11_playLine_133 : decode cX11_playLine 133 = .ok (.iastore, 1) := by decide +kernel
theorem dX11_playLine_134 : decode cX11_playLine 134 = .ok (.aload_n 0, 1) := by decide +kernel
theorem dX11_playLine_135 : decode cX11_playLine 135 = .ok (.invokevirtual 228, 3) := by decide +kernel
theorem dX11_playLine_138 : decode cX11_playLine 138 = .ok (.aload_n 0, 1) := by decide +kernel
theorem dX11_playLine_139 : decode cX11_playLine 139 = .ok (.getfield 82, 3) := by decide +kernel
theorem dX11_playLine_142 : decode cX11_playLine 142 = .ok (.iload_n 1, 1) := by decide +kernel
theorem dX11_playLine_143 : decode cX11_playLine 143 = .ok (.iconst 0, 1) := by decide +kernel
theorem dX11_playLine_144 : decode cX11_playLine 144 = .ok (.iastore, 1) := by decide +kernel
theorem dX11_playLine_145 : decode cX11_playLine 145 = .ok (.aload_n 0, 1) := by decide +kernel
theorem dX11_playLine_146 : decode cX11_playLine 146 = .ok (.getfield 166, 3) := by decide +kernel
theorem dX11_playLine_149 : decode cX11_playLine 149 = .ok (.ifCond .ne 19, 3) := by decide +kernel
theorem dX11_playLine_152 : decode cX11_playLine 152 = .ok (.aload_n 0, 1) := by decide +kernel
theorem dX11_playLine_153 : decode cX11_playLine 153 = .ok (.getfield 142, 3) := by decide +kernel
theorem dX11_playLine_156 : decode cX11_playLine 156 = .ok (.iconst 1, 1) := by decide +kernel
theorem dX11_playLine_157 : decode cX11_playLine 157 = .ok (.if_icmp .ne 11, 3) := by decide +kernel
theorem dX11_playLine_160 : decode cX11_playLine 160 = .ok (.aload_n 0, 1) := by decide +kernel
theorem dX11_playLine_161 : decode cX11_playLine 161 = .ok (.iload_n 1, 1) := by decide +kernel
theorem dX11_playLine_162 : decode cX11_playLine 162 = .ok (.invokevirtual 270, 3) := by decide +kernel
theorem dX11_playLine_165 : decode cX11_playLine 165 = .ok (.goto (-20), 3) := by decide +kernel
theorem dX11_playLine_168 : decode cX11_playLine 168 = .ok (.aload_n 0, 1) := by decide +kernel
theorem dX11_playLine_169 : decode cX11_playLine 169 = .ok (.getfield 166, 3) := by decide +kernel
theorem dX11_playLine_172 : decode cX11_playLine 172 = .ok (.ifCond .ne 14, 3) := by decide +kernel
theorem dX11_playLine_175 : decode cX11_playLine 175 = .ok (.aload_n 0, 1) := by decide +kernel
theorem dX11_playLine_176 : decode cX11_playLine 176 = .ok (.getfield 13, 3) := by decide +kernel
theorem dX11_playLine_179 : decode cX11_playLine 179 = .ok (.bipush 10, 2) := by decide +kernel
theorem dX11_playLine_181 : decode cX11_playLine 181 = .ok (.dup2, 1) := by decide +kernel
theorem dX11_playLine_182 : decode cX11_playLine 182 = .ok (.iaload, 1) := by decide +kernel
theorem dX11_playLine_183 : decode cX11_playLine 183 = .ok (.iconst 1, 1) := by decide +kernel
theorem dX11_playLine_184 : decode cX11_playLine 184 = .ok (.iadd, 1) := by decide +kernel
theorem dX11_playLine_185 : decode cX11_playLine 185 = .ok (.iastore, 1) := by decide +kernel
theorem dX11_playLine_186 : decode cX11_playLine 186 = .ok (.return_, 1) := by decide +kernel
theorem dX11_ruleLine_0 : decode cX11_ruleLine 0 = .ok (.aload_n 0, 1) := by decide +kernel
theorem dX11_ruleLine_1 : decode cX11_ruleLine 1 = .ok (.aload_n 0, 1) := by decide +kernel
theorem dX11_ruleLine_2 : decode cX11_ruleLine 2 = .ok (.getfield 20, 3) := by decide +kernel
theorem dX11_ruleLine_5 : decode cX11_ruleLine 5 = .ok (.iload_n 1, 1) := by decide +kernel
theorem dX11_ruleLine_6 : decode cX11_ruleLine 6 = .ok (.baload, 1) := by decide +kernel
theorem dX11_ruleLine_7 : decode cX11_ruleLine 7 = .ok (.ifCond .ne 7, 3) := by decide +kernel
theorem dX11_ruleLine_10 : decode cX11_ruleLine 10 = .ok (.iconst 1, 1) := by decide +kernel
theorem dX11_ruleLine_11 : decode cX11_ruleLine 11 = .ok (.goto 4, 3) := by decide +kernel
theorem dX11_ruleLine_14 : decode cX11_ruleLine 14 = .ok (.iconst 0, 1) := by decide +kernel
theorem dX11_ruleLine_15 : decode cX11_ruleLine 15 = .ok (.iconst 5, 1) := by decide +kernel
theorem dX11_ruleLine_16 : decode cX11_ruleLine 16 = .ok (.invokevirtual 224, 3) := by decide +kernel
theorem dX11_ruleLine_19 : decode cX11_ruleLine 19 = .ok (.ifCond .ne 4, 3) := by decide +kernel
theorem dX11_ruleLine_22 : decode cX11_ruleLine 22 = .ok (.return_, 1) := by decide +kernel
theorem dX11_ruleLine_23 : decode cX11_ruleLine 23 = .ok (.aload_n 0, 1) := by decide +kernel
theorem dX11_ruleLine_24 : decode cX11_ruleLine 24 = .ok (.getfield 20, 3) := by decide +kernel
theorem dX11_ruleLine_27 : decode cX11_ruleLine 27 = .ok (.iload_n 1, 1) := by decide +kernel
theorem dX11_ruleLine_28 : decode cX11_ruleLine 28 = .ok (.iconst 1, 1) := by decide +kernel
theorem dX11_ruleLine_29 : decode cX11_ruleLine 29 = .ok (.bastore, 1) := by decide +kernel
theorem dX11_ruleLine_30 : decode cX11_ruleLine 30 = .ok (.aload_n 0, 1) := by decide +kernel
theorem dX11_ruleLine_31 : decode cX11_ruleLine 31 = .ok (.invokevirtual 228, 3) := by decide +kernel
theorem dX11_ruleLine_34 : decode cX11_ruleLine 34 = .ok (.aload_n 0, 1) := by decide +kernel
theorem dX11_ruleLine_35 : decode cX11_ruleLine 35 = .ok (.getfield 17, 3) := by decide +kernel
theorem dX11_ruleLine_38 : decode cX11_ruleLine 38 = .ok (.iconst 4, 1) := by decide +kernel
theorem dX11_ruleLine_39 : decode cX11_ruleLine 39 = .ok (.iload_n 1, 1) := by decide +kernel
theorem dX11_ruleLine_40 : decode cX11_ruleLine 40 = .ok (.iadd, 1) := by decide +kernel
theorem dX11_ruleLine_41 : decode cX11_ruleLine 41 = .ok (.aload_n 0, 1) := by decide +kernel
theorem dX11_ruleLine_42 : decode cX11_ruleLine 42 = .ok (.iconst 0, 1) := by decide +kernel
theorem dX11_ruleLine_43 : decode cX11_ruleLine 43 = .ok (.iload_n 1, 1) := by decide +kernel
theorem dX11_ruleLine_44 : decode cX11_ruleLine 44 = .ok (.ifCond .eq 8, 3) := by decide +kernel
theorem dX11_ruleLine_47 : decode cX11_ruleLine 47 = .ok (.iload_n 1, 1) := by decide +kernel
theorem dX11_ruleLine_48 : decode cX11_ruleLine 48 = .ok (.iconst 2, 1) := by decide +kernel
theorem dX11_ruleLine_49 : decode cX11_ruleLine 49 = .ok (.if_icmp .ne 9, 3) := by decide +kernel
theorem dX11_ruleLine_52 : decode cX11_ruleLine 52 = .ok (.sipush 999, 3) := by decide +kernel
theorem dX11_ruleLine_55 : decode cX11_ruleLine 55 = .ok (.goto 5, 3) := by decide +kernel
theorem dX11_ruleLine_58 : decode cX11_ruleLine 58 = .ok (.bipush 9, 2) := by decide +kernel
theorem dX11_ruleLine_60 : decode cX11_ruleLine 60 = .ok (.invokevirtual 246, 3) := by decide +kernel
theorem dX11_ruleLine_63 : decode cX11_ruleLine 63 = .ok (.iastore, 1) := by decide +kernel
theorem dX11_ruleLine_64 : decode cX11_ruleLine 64 = .ok (.return_, 1) := by decide +kernel
theorem dX11_begins_0 : decode cX11_begins 0 = .ok (.aload_n 0, 1) := by decide +kernel
theorem dX11_begins_1 : decode cX11_begins 1 = .ok (.aload_n 0, 1) := by decide +kernel
theorem dX11_begins_2 : decode cX11_begins 2 = .ok (.iload_n 1, 1) := by decide +kernel
theorem dX11_begins_3 : decode cX11_begins 3 = .ok (.invokevirtual 231, 3) := by decide +kernel
theorem dX11_begins_6 : decode cX11_begins 6 = .ok (.iload_n 2, 1) := by decide +kernel
theorem dX11_begins_7 : decode cX11_begins 7 = .ok (.if_icmp .ge 7, 3) := by decide +kernel
theorem dX11_begins_10 : decode cX11_begins 10 = .ok (.iconst 1, 1) := by decide +kernel
theorem dX11_begins_11 : decode cX11_begins 11 = .ok (.goto 4, 3) := by decide +kernel
theorem dX11_begins_14 : decode cX11_begins 14 = .ok (.iconst 0, 1) := by decide +kernel
theorem dX11_begins_15 : decode cX11_begins 15 = .ok (.iconst 5, 1) := by decide +kernel
theorem dX11_begins_16 : decode cX11_begins 16 = .ok (.invokevirtual 224, 3) := by decide +kernel
theorem dX11_begins_19 : decode cX11_begins 19 = .ok (.ifCond .ne 5, 3) := by decide +kernel
theorem dX11_begins_22 : decode cX11_begins 22 = .ok (.iconst 0, 1) := by decide +kernel
theorem dX11_begins_23 : decode cX11_begins 23 = .ok (.ireturn, 1) := by decide +kernel
theorem dX11_begins_24 : decode cX11_begins 24 = .ok (.aload_n 0, 1) := by decide +kernel
theorem dX11_begins_25 : decode cX11_begins 25 = .ok (.invokevirtual 228, 3) := by decide +kernel
theorem dX11_begins_28 : decode cX11_begins 28 = .ok (.iconst 1, 1) := by decide +kernel
theorem dX11_begins_29 : decode cX11_begins 29 = .ok (.ireturn, 1) := by decide +kernel
theorem dX11_lineHere_0 : decode cX11_lineHere 0 = .ok (.aload_n 0, 1) := by decide +kernel
theorem dX11_lineHere_1 : decode cX11_lineHere 1 = .ok (.ldc 186, 2) := by decide +kernel
theorem dX11_lineHere_3 : decode cX11_lineHere 3 = .ok (.invokevirtual 188, 3) := by decide +kernel
theorem dX11_lineHere_6 : decode cX11_lineHere 6 = .ok (.ifCond .eq 19, 3) := by decide +kernel
theorem dX11_lineHere_9 : decode cX11_lineHere 9 = .ok (.aload_n 0, 1) := by decide +kernel
theorem dX11_lineHere_10 : decode cX11_lineHere 10 = .ok (.iconst 0, 1) := by decide +kernel
theorem dX11_lineHere_11 : decode cX11_lineHere 11 = .ok (.iconst 5, 1) := by decide +kernel
theorem dX11_lineHere_12 : decode cX11_lineHere 12 = .ok (.invokevirtual 273, 3) := by decide +kernel
theorem dX11_lineHere_15 : decode cX11_lineHere 15 = .ok (.ifCond .eq 212, 3) := by decide +kernel
theorem dX11_lineHere_18 : decode cX11_lineHere 18 = .ok (.aload_n 0, 1) := by decide +kernel
theorem dX11_lineHere_19 : decode cX11_lineHere 19 = .ok (.invokevirtual 276, 3) := by decide +kernel
theorem dX11_lineHere_22 : decode cX11_lineHere 22 = .ok (.goto 205, 3) := by decide +kernel
theorem dX11_lineHere_25 : decode cX11_lineHere 25 = .ok (.aload_n 0, 1) := by decide +kernel
theorem dX11_lineHere_26 : decode cX11_lineHere 26 = .ok (.ldc 192, 2) := by decide +kernel
theorem dX11_lineHere_28 : decode cX11_lineHere 28 = .ok (.invokevirtual 188, 3) := by decide +kernel
theorem dX11_lineHere_31 : decode cX11_lineHere 31 = .ok (.ifCond .eq 20, 3) := by decide +kernel
theorem dX11_lineHere_34 : decode cX11_lineHere 34 = .ok (.aload_n 0, 1) := by decide +kernel
theorem dX11_lineHere_35 : decode cX11_lineHere 35 = .ok (.iconst 5, 1) := by decide +kernel
theorem dX11_lineHere_36 : decode cX11_lineHere 36 = .ok (.bipush 6, 2) := by decide +kernel
theorem dX11_lineHere_38 : decode cX11_lineHere 38 = .ok (.invokevirtual 273, 3) := by decide +kernel
theorem dX11_lineHere_41 : decode cX11_lineHere 41 = .ok (.ifCond .eq 186, 3) := by decide +kernel
theorem dX11_lineHere_44 : decode cX11_lineHere 44 = .ok (.aload_n 0, 1) := by decide +kernel
theorem dX11_lineHere_45 : decode cX11_lineHere 45 = .ok (.invokevirtual 279, 3) := by decide +kernel
theorem dX11_lineHere_48 : decode cX11_lineHere 48 = .ok (.goto 179, 3) := by decide +kernel
theorem dX11_lineHere_51 : decode cX11_lineHere 51 = .ok (.aload_n 0, 1) := by decide +kernel
theorem dX11_lineHere_52 : decode cX11_lineHere 52 = .ok (.ldc 194, 2) := by decide +kernel
theorem dX11_lineHere_54 : decode cX11_lineHere 54 = .ok (.invokevirtual 188, 3) := by decide +kernel
theorem dX11_lineHere_57 : decode cX11_lineHere 57 = .ok (.ifCond .eq 19, 3) := by decide +kernel
theorem dX11_lineHere_60 : decode cX11_lineHere 60 = .ok (.aload_n 0, 1) := by decide +kernel
theorem dX11_lineHere_61 : decode cX11_lineHere 61 = .ok (.iconst 1, 1) := by decide +kernel
theorem dX11_lineHere_62 : decode cX11_lineHere 62 = .ok (.iconst 4, 1) := by decide +kernel
theorem dX11_lineHere_63 : decode cX11_lineHere 63 = .ok (.invokevirtual 273, 3) := by decide +kernel
theorem dX11_lineHere_66 : decode cX11_lineHere 66 = .ok (.ifCond .eq 161, 3) := by decide +kernel
theorem dX11_lineHere_69 : decode cX11_lineHere 69 = .ok (.aload_n 0, 1) := by decide +kernel
theorem dX11_lineHere_70 : decode cX11_lineHere 70 = .ok (.invokevirtual 282, 3) := by decide +kernel
theorem dX11_lineHere_73 : decode cX11_lineHere 73 = .ok (.goto 154, 3) := by decide +kernel
theorem dX11_lineHere_76 : decode cX11_lineHere 76 = .ok (.aload_n 0, 1) := by decide +kernel
theorem dX11_lineHere_77 : decode cX11_lineHere 77 = .ok (.ldc 196, 2) := by decide +kernel
theorem dX11_lineHere_79 : decode cX11_lineHere 79 = .ok (.invokevirtual 188, 3) := by decide +kernel
theorem dX11_lineHere_82 : decode cX11_lineHere 82 = .ok (.ifCond .eq 19, 3) := by decide +kernel
theorem dX11_lineHere_85 : decode cX11_lineHere 85 = .ok (.aload_n 0, 1) := by decide +kernel
theorem dX11_lineHere_86 : decode cX11_lineHere 86 = .ok (.iconst 2, 1) := by decide +kernel
theorem dX11_lineHere_87 : decode cX11_lineHere 87 = .ok (.iconst 5, 1) := by decide +kernel
theorem dX11_lineHere_88 : decode cX11_lineHere 88 = .ok (.invokevirtual 273, 3) := by decide +kernel
theorem dX11_lineHere_91 : decode cX11_lineHere 91 = .ok (.ifCond .eq 136, 3) := by decide +kernel
theorem dX11_lineHere_94 : decode cX11_lineHere 94 = .ok (.aload_n 0, 1) := by decide +kernel
theorem dX11_lineHere_95 : decode cX11_lineHere 95 = .ok (.invokevirtual 285, 3) := by decide +kernel
theorem dX11_lineHere_98 : decode cX11_lineHere 98 = .ok (.goto 129, 3) := by decide +kernel
theorem dX11_lineHere_101 : decode cX11_lineHere 101 = .ok (.aload_n 0, 1) := by decide +kernel
theorem dX11_lineHere_102 : decode cX11_lineHere 102 = .ok (.ldc 198, 2) := by decide +kernel
theorem dX11_lineHere_104 : decode cX11_lineHere 104 = .ok (.invokevirtual 188, 3) := by decide +kernel
theorem dX11_lineHere_107 : decode cX11_lineHere 107 = .ok (.ifCond .eq 19, 3) := by decide +kernel
theorem dX11_lineHere_110 : decode cX11_lineHere 110 = .ok (.aload_n 0, 1) := by decide +kernel
theorem dX11_lineHere_111 : decode cX11_lineHere 111 = .ok (.iconst 3, 1) := by decide +kernel
theorem dX11_lineHere_112 : decode cX11_lineHere 112 = .ok (.iconst 3, 1) := by decide +kernel
theorem dX11_lineHere_113 : decode cX11_lineHere 113 = .ok (.invokevirtual 273, 3) := by decide +kernel
theorem dX11_lineHere_116 : decode cX11_lineHere 116 = .ok (.ifCond .eq 111, 3) := by decide +kernel
theorem dX11_lineHere_119 : decode cX11_lineHere 119 = .ok (.aload_n 0, 1) := by decide +kernel
theorem dX11_lineHere_120 : decode cX11_lineHere 120 = .ok (.invokevirtual 288, 3) := by decide +kernel
theorem dX11_lineHere_123 : decode cX11_lineHere 123 = .ok (.goto 104, 3) := by decide +kernel
theorem dX11_lineHere_126 : decode cX11_lineHere 126 = .ok (.aload_n 0, 1) := by decide +kernel
theorem dX11_lineHere_127 : decode cX11_lineHere 127 = .ok (.ldc 200, 2) := by decide +kernel
theorem dX11_lineHere_129 : decode cX11_lineHere 129 = .ok (.invokevirtual 188, 3) := by decide +kernel
theorem dX11_lineHere_132 : decode cX11_lineHere 132 = .ok (.ifCond .eq 20, 3) := by decide +kernel
theorem dX11_lineHere_135 : decode cX11_lineHere 135 = .ok (.aload_n 0, 1) := by decide +kernel
theorem dX11_lineHere_136 : decode cX11_lineHere 136 = .ok (.iconst 4, 1) := by decide +kernel
theorem dX11_lineHere_137 : decode cX11_lineHere 137 = .ok (.bipush 8, 2) := by decide +kernel
theorem dX11_lineHere_139 : decode cX11_lineHere 139 = .ok (.invokevirtual 273, 3) := by decide +kernel
theorem dX11_lineHere_142 : decode cX11_lineHere 142 = .ok (.ifCond .eq 85, 3) := by decide +kernel
theorem dX11_lineHere_145 : decode cX11_lineHere 145 = .ok (.aload_n 0, 1) := by decide +kernel
theorem dX11_lineHere_146 : decode cX11_lineHere 146 = .ok (.invokevirtual 291, 3) := by decide +kernel
theorem dX11_lineHere_149 : decode cX11_lineHere 149 = .ok (.goto 78, 3) := by decide +kernel
theorem dX11_lineHere_152 : decode cX11_lineHere 152 = .ok (.aload_n 0, 1) := by decide +kernel
theorem dX11_lineHere_153 : decode cX11_lineHere 153 = .ok (.ldc 202, 2) := by decide +kernel
theorem dX11_lineHere_155 : decode cX11_lineHere 155 = .ok (.invokevirtual 188, 3) := by decide +kernel
theorem dX11_lineHere_158 : decode cX11_lineHere 158 = .ok (.ifCond .eq 11, 3) := by decide +kernel
theorem dX11_lineHere_161 : decode cX11_lineHere 161 = .ok (.aload_n 0, 1) := by decide +kernel
theorem dX11_lineHere_162 : decode cX11_lineHere 162 = .ok (.iconst 0, 1) := by decide +kernel
theorem dX11_lineHere_163 : decode cX11_lineHere 163 = .ok (.invokevirtual 294, 3) := by decide +kernel
theorem dX11_lineHere_166 : decode cX11_lineHere 166 = .ok (.goto 61, 3) := by decide +kernel
theorem dX11_lineHere_169 : decode cX11_lineHere 169 = .ok (.aload_n 0, 1) := by decide +kernel
theorem dX11_lineHere_170 : decode cX11_lineHere 170 = .ok (.ldc 204, 2) := by decide +kernel
theorem dX11_lineHere_172 : decode cX11_lineHere 172 = .ok (.invokevirtual 188, 3) := by decide +kernel
theorem dX11_lineHere_175 : decode cX11_lineHere 175 = .ok (.ifCond .eq 11, 3) := by decide +kernel
theorem dX11_lineHere_178 : decode cX11_lineHere 178 = .ok (.aload_n 0, 1) := by decide +kernel
theorem dX11_lineHere_179 : decode cX11_lineHere 179 = .ok (.iconst 1, 1) := by decide +kernel
theorem dX11_lineHere_180 : decode cX11_lineHere 180 = .ok (.invokevirtual 294, 3) := by decide +kernel
theorem dX11_lineHere_183 : decode cX11_lineHere 183 = .ok (.goto 44, 3) := by decide +kernel
theorem dX11_lineHere_186 : decode cX11_lineHere 186 = .ok (.aload_n 0, 1) := by decide +kernel
theorem dX11_lineHere_187 : decode cX11_lineHere 187 = .ok (.ldc 206, 2) := by decide +kernel
theorem dX11_lineHere_189 : decode cX11_lineHere 189 = .ok (.invokevirtual 188, 3) := by decide +kernel
theorem dX11_lineHere_192 : decode cX11_lineHere 192 = .ok (.ifCond .eq 11, 3) := by decide +kernel
theorem dX11_lineHere_195 : decode cX11_lineHere 195 = .ok (.aload_n 0, 1) := by decide +kernel
theorem dX11_lineHere_196 : decode cX11_lineHere 196 = .ok (.iconst 2, 1) := by decide +kernel
theorem dX11_lineHere_197 : decode cX11_lineHere 197 = .ok (.invokevirtual 294, 3) := by decide +kernel
theorem dX11_lineHere_200 : decode cX11_lineHere 200 = .ok (.goto 27, 3) := by decide +kernel
theorem dX11_lineHere_203 : decode cX11_lineHere 203 = .ok (.aload_n 0, 1) := by decide +kernel
theorem dX11_lineHere_204 : decode cX11_lineHere 204 = .ok (.ldc 208, 2) := by decide +kernel
theorem dX11_lineHere_206 : decode cX11_lineHere 206 = .ok (.invokevirtual 188, 3) := by decide +kernel
theorem dX11_lineHere_209 : decode cX11_lineHere 209 = .ok (.ifCond .eq 11, 3) := by decide +kernel
theorem dX11_lineHere_212 : decode cX11_lineHere 212 = .ok (.aload_n 0, 1) := by decide +kernel
theorem dX11_lineHere_213 : decode cX11_lineHere 213 = .ok (.iconst 3, 1) := by decide +kernel
theorem dX11_lineHere_214 : decode cX11_lineHere 214 = .ok (.invokevirtual 294, 3) := by decide +kernel
theorem dX11_lineHere_217 : decode cX11_lineHere 217 = .ok (.goto 10, 3) := by decide +kernel
theorem dX11_lineHere_220 : decode cX11_lineHere 220 = .ok (.aload_n 0, 1) := by decide +kernel
theorem dX11_lineHere_221 : decode cX11_lineHere 221 = .ok (.iconst 0, 1) := by decide +kernel
theorem dX11_lineHere_222 : decode cX11_lineHere 222 = .ok (.iconst 1, 1) := by decide +kernel
theorem dX11_lineHere_223 : decode cX11_lineHere 223 = .ok (.invokevirtual 224, 3) := by decide +kernel
theorem dX11_lineHere_226 : decode cX11_lineHere 226 = .ok (.pop, 1) := by decide +kernel
theorem dX11_lineHere_227 : decode cX11_lineHere 227 = .ok (.aload_n 0, 1) := by decide +kernel
theorem dX11_lineHere_228 : decode cX11_lineHere 228 = .ok (.bipush 59, 2) := by decide +kernel
theorem dX11_lineHere_230 : decode cX11_lineHere 230 = .ok (.invokevirtual 297, 3) := by decide +kernel
theorem dX11_lineHere_233 : decode cX11_lineHere 233 = .ok (.return_, 1) := by decide +kernel
theorem dX11_copies_0 : decode cX11_copies 0 = .ok (.iconst 0, 1) := by decide +kernel
theorem dX11_copies_1 : decode cX11_copies 1 = .ok (.istore_n 1, 1) := by decide +kernel
theorem dX11_copies_2 : decode cX11_copies 2 = .ok (.iload_n 1, 1) := by decide +kernel
theorem dX11_copies_3 : decode cX11_copies 3 = .ok (.aload_n 0, 1) := by decide +kernel
theorem dX11_copies_4 : decode cX11_copies 4 = .ok (.arraylength, 1) := by decide +kernel
theorem dX11_copies_5 : decode cX11_copies 5 = .ok (.iconst 2, 1) := by decide +kernel
theorem dX11_copies_6 : decode cX11_copies 6 = .ok (.idiv, 1) := by decide +kernel
theorem dX11_copies_7 : decode cX11_copies 7 = .ok (.if_icmp .ge 20, 3) := by decide +kernel
theorem dX11_copies_10 : decode cX11_copies 10 = .ok (.aload_n 0, 1) := by decide +kernel
theorem dX11_copies_11 : decode cX11_copies 11 = .ok (.iload_n 1, 1) := by decide +kernel
theorem dX11_copies_12 : decode cX11_copies 12 = .ok (.aload_n 0, 1) := by decide +kernel
theorem dX11_copies_13 : decode cX11_copies 13 = .ok (.aload_n 0, 1) := by decide +kernel
theorem dX11_copies_14 : decode cX11_copies 14 = .ok (.arraylength, 1) := by decide +kernel
theorem dX11_copies_15 : decode cX11_copies 15 = .ok (.iconst 2, 1) := by decide +kernel
theorem dX11_copies_16 : decode cX11_copies 16 = .ok (.idiv, 1) := by decide +kernel
theorem dX11_copies_17 : decode cX11_copies 17 = .ok (.iload_n 1, 1) := by decide +kernel
theorem dX11_copies_18 : decode cX11_copies 18 = .ok (.iadd, 1) := by decide +kernel
theorem dX11_copies_19 : decode cX11_copies 19 = .ok (.iaload, 1) := by decide +kernel
theorem dX11_copies_20 : decode cX11_copies 20 = .ok (.iastore, 1) := by decide +kernel
theorem dX11_copies_21 : decode cX11_copies 21 = .ok (.iinc 1 1, 3) := by decide +kernel
theorem dX11_copies_24 : decode cX11_copies 24 = .ok (.goto (-22), 3) := by decide +kernel
theorem dX11_copies_27 : decode cX11_copies 27 = .ok (.return_, 1) := by decide +kernel
theorem dX11_takesOver_0 : decode cX11_takesOver 0 = .ok (.aload_n 0, 1) := by decide +kernel
theorem dX11_takesOver_1 : decode cX11_takesOver 1 = .ok (.getfield 13, 3) := by decide +kernel
theorem dX11_takesOver_4 : decode cX11_takesOver 4 = .ok (.invokestatic 300, 3) := by decide +kernel
theorem dX11_takesOver_7 : decode cX11_takesOver 7 = .ok (.aload_n 0, 1) := by decide +kernel
theorem dX11_takesOver_8 : decode cX11_takesOver 8 = .ok (.getfield 17, 3) := by decide +kernel
theorem dX11_takesOver_11 : decode cX11_takesOver 11 = .ok (.invokestatic 300, 3) := by decide +kernel
theorem dX11_takesOver_14 : decode cX11_takesOver 14 = .ok (.aload_n 0, 1) := by decide +kernel
theorem dX11_takesOver_15 : decode cX11_takesOver 15 = .ok (.getfield 28, 3) := by decide +kernel
theorem dX11_takesOver_18 : decode cX11_takesOver 18 = .ok (.invokestatic 300, 3) := by decide +kernel
theorem dX11_takesOver_21 : decode cX11_takesOver 21 = .ok (.aload_n 0, 1) := by decide +kernel
theorem dX11_takesOver_22 : decode cX11_takesOver 22 = .ok (.getfield 31, 3) := by decide +kernel
theorem dX11_takesOver_25 : decode cX11_takesOver 25 = .ok (.invokestatic 300, 3) := by decide +kernel
theorem dX11_takesOver_28 : decode cX11_takesOver 28 = .ok (.aload_n 0, 1) := by decide +kernel
theorem dX11_takesOver_29 : decode cX11_takesOver 29 = .ok (.getfield 34, 3) := by decide +kernel
theorem dX11_takesOver_32 : decode cX11_takesOver 32 = .ok (.invokestatic 300, 3) := by decide +kernel
theorem dX11_takesOver_35 : decode cX11_takesOver 35 = .ok (.aload_n 0, 1) := by decide +kernel
theorem dX11_takesOver_36 : decode cX11_takesOver 36 = .ok (.getfield 37, 3) := by decide +kernel
theorem dX11_takesOver_39 : decode cX11_takesOver 39 = .ok (.invokestatic 300, 3) := by decide +kernel
theorem dX11_takesOver_42 : decode cX11_takesOver 42 = .ok (.aload_n 0, 1) := by decide +kernel
theorem dX11_takesOver_43 : decode cX11_takesOver 43 = .ok (.getfield 40, 3) := by decide +kernel
theorem dX11_takesOver_46 : decode cX11_takesOver 46 = .ok (.invokestatic 300, 3) := by decide +kernel
theorem dX11_takesOver_49 : decode cX11_takesOver 49 = .ok (.aload_n 0, 1) := by decide +kernel
theorem dX11_takesOver_50 : decode cX11_takesOver 50 = .ok (.getfield 49, 3) := by decide +kernel
theorem dX11_takesOver_53 : decode cX11_takesOver 53 = .ok (.invokestatic 300, 3) := by decide +kernel
theorem dX11_takesOver_56 : decode cX11_takesOver 56 = .ok (.aload_n 0, 1) := by decide +kernel
theorem dX11_takesOver_57 : decode cX11_takesOver 57 = .ok (.getfield 52, 3) := by decide +kernel
theorem dX11_takesOver_60 : decode cX11_takesOver 60 = .ok (.invokestatic 300, 3) := by decide +kernel
theorem dX11_takesOver_63 : decode cX11_takesOver 63 = .ok (.aload_n 0, 1) := by decide +kernel
theorem dX11_takesOver_64 : decode cX11_takesOver 64 = .ok (.getfield 55, 3) := by decide +kernel
theorem dX11_takesOver_67 : decode cX11_takesOver 67 = .ok (.invokestatic 300, 3) := by decide +kernel
theorem dX11_takesOver_70 : decode cX11_takesOver 70 = .ok (.aload_n 0, 1) := by decide +kernel
theorem dX11_takesOver_71 : decode cX11_takesOver 71 = .ok (.getfield 58, 3) := by decide +kernel
theorem dX11_takesOver_74 : decode cX11_takesOver 74 = .ok (.invokestatic 300, 3) := by decide +kernel
theorem dX11_takesOver_77 : decode cX11_takesOver 77 = .ok (.aload_n 0, 1) := by decide +kernel
theorem dX11_takesOver_78 : decode cX11_takesOver 78 = .ok (.getfield 61, 3) := by decide +kernel
theorem dX11_takesOver_81 : decode cX11_takesOver 81 = .ok (.invokestatic 300, 3) := by decide +kernel
theorem dX11_takesOver_84 : decode cX11_takesOver 84 = .ok (.aload_n 0, 1) := by decide +kernel
theorem dX11_takesOver_85 : decode cX11_takesOver 85 = .ok (.getfield 64, 3) := by decide +kernel
theorem dX11_takesOver_88 : decode cX11_takesOver 88 = .ok (.invokestatic 300, 3) := by decide +kernel
theorem dX11_takesOver_91 : decode cX11_takesOver 91 = .ok (.aload_n 0, 1) := by decide +kernel
theorem dX11_takesOver_92 : decode cX11_takesOver 92 = .ok (.getfield 67, 3) := by decide +kernel
theorem dX11_takesOver_95 : decode cX11_takesOver 95 = .ok (.invokestatic 300, 3) := by decide +kernel
theorem dX11_takesOver_98 : decode cX11_takesOver 98 = .ok (.aload_n 0, 1) := by decide +kernel
theorem dX11_takesOver_99 : decode cX11_takesOver 99 = .ok (.getfield 70, 3) := by decide +kernel
theorem dX11_takesOver_102 : decode cX11_takesOver 102 = .ok (.invokestatic 300, 3) := by decide +kernel
theorem dX11_takesOver_105 : decode cX11_takesOver 105 = .ok (.aload_n 0, 1) := by decide +kernel
theorem dX11_takesOver_106 : decode cX11_takesOver 106 = .ok (.getfield 73, 3) := by decide +kernel
theorem dX11_takesOver_109 : decode cX11_takesOver 109 = .ok (.invokestatic 300, 3) := by decide +kernel
theorem dX11_takesOver_112 : decode cX11_takesOver 112 = .ok (.aload_n 0, 1) := by decide +kernel
theorem dX11_takesOver_113 : decode cX11_takesOver 113 = .ok (.getfield 76, 3) := by decide +kernel
theorem dX11_takesOver_116 : decode cX11_takesOver 116 = .ok (.invokestatic 300, 3) := by decide +kernel
theorem dX11_takesOver_119 : decode cX11_takesOver 119 = .ok (.aload_n 0, 1) := by decide +kernel
theorem dX11_takesOver_120 : decode cX11_takesOver 120 = .ok (.getfield 79, 3) := by decide +kernel
theorem dX11_takesOver_123 : decode cX11_takesOver 123 = .ok (.invokestatic 300, 3) := by decide +kernel
theorem dX11_takesOver_126 : decode cX11_takesOver 126 = .ok (.aload_n 0, 1) := by decide +kernel
theorem dX11_takesOver_127 : decode cX11_takesOver 127 = .ok (.getfield 82, 3) := by decide +kernel
theorem dX11_takesOver_130 : decode cX11_takesOver 130 = .ok (.invokestatic 300, 3) := by decide +kernel
theorem dX11_takesOver_133 : decode cX11_takesOver 133 = .ok (.aload_n 0, 1) := by decide +kernel
theorem dX11_takesOver_134 : decode cX11_takesOver 134 = .ok (.getfield 85, 3) := by decide +kernel
theorem dX11_takesOver_137 : decode cX11_takesOver 137 = .ok (.invokestatic 300, 3) := by decide +kernel
theorem dX11_takesOver_140 : decode cX11_takesOver 140 = .ok (.aload_n 0, 1) := by decide +kernel
theorem dX11_takesOver_141 : decode cX11_takesOver 141 = .ok (.getfield 88, 3) := by decide +kernel
theorem dX11_takesOver_144 : decode cX11_takesOver 144 = .ok (.invokestatic 300, 3) := by decide +kernel
theorem dX11_takesOver_147 : decode cX11_takesOver 147 = .ok (.aload_n 0, 1) := by decide +kernel
theorem dX11_takesOver_148 : decode cX11_takesOver 148 = .ok (.getfield 91, 3) := by decide +kernel
theorem dX11_takesOver_151 : decode cX11_takesOver 151 = .ok (.invokestatic 300, 3) := by decide +kernel
theorem dX11_takesOver_154 : decode cX11_takesOver 154 = .ok (.aload_n 0, 1) := by decide +kernel
theorem dX11_takesOver_155 : decode cX11_takesOver 155 = .ok (.getfield 94, 3) := by decide +kernel
theorem dX11_takesOver_158 : decode cX11_takesOver 158 = .ok (.invokestatic 300, 3) := by decide +kernel
theorem dX11_takesOver_161 : decode cX11_takesOver 161 = .ok (.iconst 0, 1) := by decide +kernel
theorem dX11_takesOver_162 : decode cX11_takesOver 162 = .ok (.istore_n 1, 1) := by decide +kernel
theorem dX11_takesOver_163 : decode cX11_takesOver 163 = .ok (.iload_n 1, 1) := by decide +kernel
theorem dX11_takesOver_164 : decode cX11_takesOver 164 = .ok (.iconst 5, 1) := by decide +kernel
theorem dX11_takesOver_165 : decode cX11_takesOver 165 = .ok (.if_icmp .ge 37, 3) := by decide +kernel
theorem dX11_takesOver_168 : decode cX11_takesOver 168 = .ok (.aload_n 0, 1) := by decide +kernel
theorem dX11_takesOver_169 : decode cX11_takesOver 169 = .ok (.getfield 43, 3) := by decide +kernel
theorem dX11_takesOver_172 : decode cX11_takesOver 172 = .ok (.iload_n 1, 1) := by decide +kernel
theorem dX11_takesOver_173 : decode cX11_takesOver 173 = .ok (.aload_n 0, 1) := by decide +kernel
theorem dX11_takesOver_174 : decode cX11_takesOver 174 = .ok (.getfield 43, 3) := by decide +kernel
theorem dX11_takesOver_177 : decode cX11_takesOver 177 = .ok (.iconst 5, 1) := by decide +kernel
theorem dX11_takesOver_178 : decode cX11_takesOver 178 = .ok (.iload_n 1, 1) := by decide +kernel
theorem dX11_takesOver_179 : decode cX11_takesOver 179 = .ok (.iadd, 1) := by decide +kernel
theorem dX11_takesOver_180 : decode cX11_takesOver 180 = .ok (.baload, 1) := by decide +kernel
theorem dX11_takesOver_181 : decode cX11_takesOver 181 = .ok (.bastore, 1) := by decide +kernel
theorem dX11_takesOver_182 : decode cX11_takesOver 182 = .ok (.aload_n 0, 1) := by decide +kernel
theorem dX11_takesOver_183 : decode cX11_takesOver 183 = .ok (.getfield 46, 3) := by decide +kernel
theorem dX11_takesOver_186 : decode cX11_takesOver 186 = .ok (.iload_n 1, 1) := by decide +kernel
theorem dX11_takesOver_187 : decode cX11_takesOver 187 = .ok (.aload_n 0, 1) := by decide +kernel
theorem dX11_takesOver_188 : decode cX11_takesOver 188 = .ok (.getfield 46, 3) := by decide +kernel
theorem dX11_takesOver_191 : decode cX11_takesOver 191 = .ok (.iconst 5, 1) := by decide +kernel
theorem dX11_takesOver_192 : decode cX11_takesOver 192 = .ok (.iload_n 1, 1) := by decide +kernel
theorem dX11_takesOver_193 : decode cX11_takesOver 193 = .ok (.iadd, 1) := by decide +kernel
theorem dX11_takesOver_194 : decode cX11_takesOver 194 = .ok (.baload, 1) := by decide +kernel
theorem dX11_takesOver_195 : decode cX11_takesOver 195 = .ok (.bastore, 1) := by decide +kernel
theorem dX11_takesOver_196 : decode cX11_takesOver 196 = .ok (.iinc 1 1, 3) := by decide +kernel
theorem dX11_takesOver_199 : decode cX11_takesOver 199 = .ok (.goto (-36), 3) := by decide +kernel
theorem dX11_takesOver_202 : decode cX11_takesOver 202 = .ok (.iconst 0, 1) := by decide +kernel
theorem dX11_takesOver_203 : decode cX11_takesOver 203 = .ok (.istore_n 1, 1) := by decide +kernel
theorem dX11_takesOver_204 : decode cX11_takesOver 204 = .ok (.iload_n 1, 1) := by decide +kernel
theorem dX11_takesOver_205 : decode cX11_takesOver 205 = .ok (.bipush 114, 2) := by decide +kernel
theorem dX11_takesOver_207 : decode cX11_takesOver 207 = .ok (.if_icmp .ge 16, 3) := by decide +kernel
theorem dX11_takesOver_210 : decode cX11_takesOver 210 = .ok (.aload_n 0, 1) := by decide +kernel
theorem dX11_takesOver_211 : decode cX11_takesOver 211 = .ok (.getfield 97, 3) := by decide +kernel
theorem dX11_takesOver_214 : decode cX11_takesOver 214 = .ok (.iload_n 1, 1) := by decide +kernel
theorem dX11_takesOver_215 : decode cX11_takesOver 215 = .ok (.iconst 0, 1) := by decide +kernel
theorem dX11_takesOver_216 : decode cX11_takesOver 216 = .ok (.iastore, 1) := by decide +kernel
theorem dX11_takesOver_217 : decode cX11_takesOver 217 = .ok (.iinc 1 1, 3) := by decide +kernel
theorem dX11_takesOver_220 : decode cX11_takesOver 220 = .ok (.goto (-16), 3) := by decide +kernel
theorem dX11_takesOver_223 : decode cX11_takesOver 223 = .ok (.iconst 0, 1) := by decide +kernel
theorem dX11_takesOver_224 : decode cX11_takesOver 224 = .ok (.istore_n 1, 1) := by decide +kernel
theorem dX11_takesOver_225 : decode cX11_takesOver 225 = .ok (.iload_n 1, 1) := by decide +kernel
theorem dX11_takesOver_226 : decode cX11_takesOver 226 = .ok (.aload_n 0, 1) := by decide +kernel
theorem dX11_takesOver_227 : decode cX11_takesOver 227 = .ok (.getfield 13, 3) := by decide +kernel
theorem dX11_takesOver_230 : decode cX11_takesOver 230 = .ok (.iconst 1, 1) := by decide +kernel
theorem dX11_takesOver_231 : decode cX11_takesOver 231 = .ok (.iaload, 1) := by decide +kernel
theorem dX11_takesOver_232 : decode cX11_takesOver 232 = .ok (.if_icmp .ge 24, 3) := by decide +kernel
theorem dX11_takesOver_235 : decode cX11_takesOver 235 = .ok (.aload_n 0, 1) := by decide +kernel
theorem dX11_takesOver_236 : decode cX11_takesOver 236 = .ok (.getfield 97, 3) := by decide +kernel
theorem dX11_takesOver_239 : decode cX11_takesOver 239 = .ok (.bipush 33, 2) := by decide +kernel
theorem dX11_takesOver_241 : decode cX11_takesOver 241 = .ok (.iload_n 1, 1) := by decide +kernel
theorem dX11_takesOver_242 : decode cX11_takesOver 242 = .ok (.iadd, 1) := by decide +kernel
theorem dX11_takesOver_243 : decode cX11_takesOver 243 = .ok (.aload_n 0, 1) := by decide +kernel
theorem dX11_takesOver_244 : decode cX11_takesOver 244 = .ok (.getfield 37, 3) := by decide +kernel
theorem dX11_takesOver_247 : decode cX11_takesOver 247 = .ok (.iload_n 1, 1) := by decide +kernel
theorem dX11_takesOver_248 : decode cX11_takesOver 248 = .ok (.iaload, 1) := by decide +kernel
theorem dX11_takesOver_249 : decode cX11_takesOver 249 = .ok (.iastore, 1) := by decide +kernel
theorem dX11_takesOver_250 : decode cX11_takesOver 250 = .ok (.iinc 1 1, 3) := by decide +kernel
theorem dX11_takesOver_253 : decode cX11_takesOver 253 = .ok (.goto (-28), 3) := by decide +kernel
theorem dX11_takesOver_256 : decode cX11_takesOver 256 = .ok (.aload_n 0, 1) := by decide +kernel
theorem dX11_takesOver_257 : decode cX11_takesOver 257 = .ok (.iconst 0, 1) := by decide +kernel
theorem dX11_takesOver_258 : decode cX11_takesOver 258 = .ok (.putfield 304, 3) := by decide +kernel
theorem dX11_takesOver_261 : decode cX11_takesOver 261 = .ok (.aload_n 0, 1) := by decide +kernel
theorem dX11_takesOver_262 : decode cX11_takesOver 262 = .ok (.getfield 106, 3) := by decide +kernel
theorem dX11_takesOver_265 : decode cX11_takesOver 265 = .ok (.iconst 0, 1) := by decide +kernel
theorem dX11_takesOver_266 : decode cX11_takesOver 266 = .ok (.iconst 0, 1) := by decide +kernel
theorem dX11_takesOver_267 : decode cX11_takesOver 267 = .ok (.bastore, 1) := by decide +kernel
theorem dX11_takesOver_268 : decode cX11_takesOver 268 = .ok (.aload_n 0, 1) := by decide +kernel
theorem dX11_takesOver_269 : decode cX11_takesOver 269 = .ok (.getfield 106, 3) := by decide +kernel
theorem dX11_takesOver_272 : decode cX11_takesOver 272 = .ok (.iconst 1, 1) := by decide +kernel
theorem dX11_takesOver_273 : decode cX11_takesOver 273 = .ok (.iconst 0, 1) := by decide +kernel
theorem dX11_takesOver_274 : decode cX11_takesOver 274 = .ok (.bastore, 1) := by decide +kernel
theorem dX11_takesOver_275 : decode cX11_takesOver 275 = .ok (.return_, 1) := by decide +kernel
theorem dX11_text_0 : decode cX11_text 0 = .ok (.aload_n 0, 1) := by decide +kernel
theorem dX11_text_1 : decode cX11_text 1 = .ok (.iconst 0, 1) := by decide +kernel
theorem dX11_text_2 : decode cX11_text 2 = .ok (.putfield 119, 3) := by decide +kernel
theorem dX11_text_5 : decode cX11_text 5 = .ok (.iload_n 1, 1) := by decide +kernel
theorem dX11_text_6 : decode cX11_text 6 = .ok (.i2l, 1) := by decide +kernel
theorem dX11_text_7 : decode cX11_text 7 = .ok (.lconst 0, 1) := by decide +kernel
theorem dX11_text_8 : decode cX11_text 8 = .ok (.aload_n 0, 1) := by decide +kernel
theorem dX11_text_9 : decode cX11_text 9 = .ok (.getfield 123, 3) := by decide +kernel
theorem dX11_text_12 : decode cX11_text 12 = .ok (.i2l, 1) := by decide +kernel
theorem dX11_text_13 : decode cX11_text 13 = .ok (.invokestatic 156, 3) := by decide +kernel
theorem dX11_text_16 : decode cX11_text 16 = .ok (.ifCond .ne 5, 3) := by decide +kernel
theorem dX11_text_19 : decode cX11_text 19 = .ok (.iconst (-1), 1) := by decide +kernel
theorem dX11_text_20 : decode cX11_text 20 = .ok (.ireturn, 1) := by decide +kernel
theorem dX11_text_21 : decode cX11_text 21 = .ok (.aload_n 0, 1) := by decide +kernel
theorem dX11_text_22 : decode cX11_text 22 = .ok (.iconst 0, 1) := by decide +kernel
theorem dX11_text_23 : decode cX11_text 23 = .ok (.putfield 123, 3) := by decide +kernel
theorem dX11_text_26 : decode cX11_text 26 = .ok (.aload_n 0, 1) := by decide +kernel
theorem dX11_text_27 : decode cX11_text 27 = .ok (.iload_n 1, 1) := by decide +kernel
theorem dX11_text_28 : decode cX11_text 28 = .ok (.putfield 129, 3) := by decide +kernel
theorem dX11_text_31 : decode cX11_text 31 = .ok (.aload_n 0, 1) := by decide +kernel
theorem dX11_text_32 : decode cX11_text 32 = .ok (.iconst 0, 1) := by decide +kernel
theorem dX11_text_33 : decode cX11_text 33 = .ok (.putfield 132, 3) := by decide +kernel
theorem dX11_text_36 : decode cX11_text 36 = .ok (.aload_n 0, 1) := by decide +kernel
theorem dX11_text_37 : decode cX11_text 37 = .ok (.iconst 0, 1) := by decide +kernel
theorem dX11_text_38 : decode cX11_text 38 = .ok (.putfield 166, 3) := by decide +kernel
theorem dX11_text_41 : decode cX11_text 41 = .ok (.aload_n 0, 1) := by decide +kernel
theorem dX11_text_42 : decode cX11_text 42 = .ok (.iconst 1, 1) := by decide +kernel
theorem dX11_text_43 : decode cX11_text 43 = .ok (.invokevirtual 115, 3) := by decide +kernel
theorem dX11_text_46 : decode cX11_text 46 = .ok (.aload_n 0, 1) := by decide +kernel
theorem dX11_text_47 : decode cX11_text 47 = .ok (.invokevirtual 228, 3) := by decide +kernel
theorem dX11_text_50 : decode cX11_text 50 = .ok (.aload_n 0, 1) := by decide +kernel
theorem dX11_text_51 : decode cX11_text 51 = .ok (.getfield 166, 3) := by decide +kernel
theorem dX11_text_54 : decode cX11_text 54 = .ok (.ifCond .ne 17, 3) := by decide +kernel
theorem dX11_text_57 : decode cX11_text 57 = .ok (.aload_n 0, 1) := by decide +kernel
theorem dX11_text_58 : decode cX11_text 58 = .ok (.getfield 142, 3) := by decide +kernel
theorem dX11_text_61 : decode cX11_text 61 = .ok (.ifCond .eq 10, 3) := by decide +kernel
theorem dX11_text_64 : decode cX11_text 64 = .ok (.aload_n 0, 1) := by decide +kernel
theorem dX11_text_65 : decode cX11_text 65 = .ok (.invokevirtual 307, 3) := by decide +kernel
theorem dX11_text_68 : decode cX11_text 68 = .ok (.goto (-18), 3) := by decide +kernel
theorem dX11_text_71 : decode cX11_text 71 = .ok (.aload_n 0, 1) := by decide +kernel
theorem dX11_text_72 : decode cX11_text 72 = .ok (.getfield 166, 3) := by decide +kernel
theorem dX11_text_75 : decode cX11_text 75 = .ok (.ifCond .eq 19, 3) := by decide +kernel
theorem dX11_text_78 : decode cX11_text 78 = .ok (.bipush (-2), 2) := by decide +kernel
theorem dX11_text_80 : decode cX11_text 80 = .ok (.bipush 8, 2) := by decide +kernel
theorem dX11_text_82 : decode cX11_text 82 = .ok (.aload_n 0, 1) := by decide +kernel
theorem dX11_text_83 : decode cX11_text 83 = .ok (.getfield 169, 3) := by decide +kernel
theorem dX11_text_86 : decode cX11_text 86 = .ok (.imul, 1) := by decide +kernel
theorem dX11_text_87 : decode cX11_text 87 = .ok (.aload_n 0, 1) := by decide +kernel
theorem dX11_text_88 : decode cX11_text 88 = .ok (.getfield 166, 3) := by decide +kernel
theorem dX11_text_91 : decode cX11_text 91 = .ok (.iadd, 1) := by decide +kernel
theorem dX11_text_92 : decode cX11_text 92 = .ok (.isub, 1) := by decide +kernel
theorem dX11_text_93 : decode cX11_text 93 = .ok (.ireturn, 1) := by decide +kernel
theorem dX11_text_94 : decode cX11_text 94 = .ok (.aload_n 0, 1) := by decide +kernel
theorem dX11_text_95 : decode cX11_text 95 = .ok (.invokevirtual 310, 3) := by decide +kernel
theorem dX11_text_98 : decode cX11_text 98 = .ok (.aload_n 0, 1) := by decide +kernel
theorem dX11_text_99 : decode cX11_text 99 = .ok (.getfield 13, 3) := by decide +kernel
theorem dX11_text_102 : decode cX11_text 102 = .ok (.iconst 4, 1) := by decide +kernel
theorem dX11_text_103 : decode cX11_text 103 = .ok (.iaload, 1) := by decide +kernel
theorem dX11_text_104 : decode cX11_text 104 = .ok (.ireturn, 1) := by decide +kernel
theorem dX11_isPlay_0 : decode cX11_isPlay 0 = .ok (.iload_n 1, 1) := by decide +kernel
theorem dX11_isPlay_1 : decode cX11_isPlay 1 = .ok (.i2l, 1) := by decide +kernel
theorem dX11_isPlay_2 : decode cX11_isPlay 2 = .ok (.lconst 0, 1) := by decide +kernel
theorem dX11_isPlay_3 : decode cX11_isPlay 3 = .ok (.aload_n 0, 1) := by decide +kernel
theorem dX11_isPlay_4 : decode cX11_isPlay 4 = .ok (.getfield 13, 3) := by decide +kernel
theorem dX11_isPlay_7 : decode cX11_isPlay 7 = .ok (.iconst 4, 1) := by decide +kernel
theorem dX11_isPlay_8 : decode cX11_isPlay 8 = .ok (.iaload, 1) := by decide +kernel
theorem dX11_isPlay_9 : decode cX11_isPlay 9 = .ok (.iconst 1, 1) := by decide +kernel
theorem dX11_isPlay_10 : decode cX11_isPlay 10 = .ok (.isub, 1) := by decide +kernel
theorem dX11_isPlay_11 : decode cX11_isPlay 11 = .ok (.i2l, 1) := by decide +kernel
theorem dX11_isPlay_12 : decode cX11_isPlay 12 = .ok (.invokestatic 156, 3) := by decide +kernel
theorem dX11_isPlay_15 : decode cX11_isPlay 15 = .ok (.ireturn, 1) := by decide +kernel
theorem dX11_isSide_0 : decode cX11_isSide 0 = .ok (.iload_n 1, 1) := by decide +kernel
theorem dX11_isSide_1 : decode cX11_isSide 1 = .ok (.i2l, 1) := by decide +kernel
theorem dX11_isSide_2 : decode cX11_isSide 2 = .ok (.lconst 0, 1) := by decide +kernel
theorem dX11_isSide_3 : decode cX11_isSide 3 = .ok (.aload_n 0, 1) := by decide +kernel
theorem dX11_isSide_4 : decode cX11_isSide 4 = .ok (.getfield 13, 3) := by decide +kernel
theorem dX11_isSide_7 : decode cX11_isSide 7 = .ok (.iconst 1, 1) := by decide +kernel
theorem dX11_isSide_8 : decode cX11_isSide 8 = .ok (.iaload, 1) := by decide +kernel
theorem dX11_isSide_9 : decode cX11_isSide 9 = .ok (.iconst 1, 1) := by decide +kernel
theorem dX11_isSide_10 : decode cX11_isSide 10 = .ok (.isub, 1) := by decide +kernel
theorem dX11_isSide_11 : decode cX11_isSide 11 = .ok (.i2l, 1) := by decide +kernel
theorem dX11_isSide_12 : decode cX11_isSide 12 = .ok (.invokestatic 156, 3) := by decide +kernel
theorem dX11_isSide_15 : decode cX11_isSide 15 = .ok (.ireturn, 1) := by decide +kernel
theorem dX11_isBoard_0 : decode cX11_isBoard 0 = .ok (.iload_n 1, 1) := by decide +kernel
theorem dX11_isBoard_1 : decode cX11_isBoard 1 = .ok (.i2l, 1) := by decide +kernel
theorem dX11_isBoard_2 : decode cX11_isBoard 2 = .ok (.lconst 0, 1) := by decide +kernel
theorem dX11_isBoard_3 : decode cX11_isBoard 3 = .ok (.aload_n 0, 1) := by decide +kernel
theorem dX11_isBoard_4 : decode cX11_isBoard 4 = .ok (.getfield 13, 3) := by decide +kernel
theorem dX11_isBoard_7 : decode cX11_isBoard 7 = .ok (.iconst 3, 1) := by decide +kernel
theorem dX11_isBoard_8 : decode cX11_isBoard 8 = .ok (.iaload, 1) := by decide +kernel
theorem dX11_isBoard_9 : decode cX11_isBoard 9 = .ok (.iconst 1, 1) := by decide +kernel
theorem dX11_isBoard_10 : decode cX11_isBoard 10 = .ok (.isub, 1) := by decide +kernel
theorem dX11_isBoard_11 : decode cX11_isBoard 11 = .ok (.i2l, 1) := by decide +kernel
theorem dX11_isBoard_12 : decode cX11_isBoard 12 = .ok (.invokestatic 156, 3) := by decide +kernel
theorem dX11_isBoard_15 : decode cX11_isBoard 15 = .ok (.ireturn, 1) := by decide +kernel
theorem dX11_callOf_0 : decode cX11_callOf 0 = .ok (.iload_n 1, 1) := by decide +kernel
theorem dX11_callOf_1 : decode cX11_callOf 1 = .ok (.aload_n 0, 1) := by decide +kernel
theorem dX11_callOf_2 : decode cX11_callOf 2 = .ok (.getfield 97, 3) := by decide +kernel
theorem dX11_callOf_5 : decode cX11_callOf 5 = .ok (.iconst 0, 1) := by decide +kernel
theorem dX11_callOf_6 : decode cX11_callOf 6 = .ok (.iaload, 1) := by decide +kernel
theorem dX11_callOf_7 : decode cX11_callOf 7 = .ok (.if_icmp .ge 14, 3) := by decide +kernel
theorem dX11_callOf_10 : decode cX11_callOf 10 = .ok (.aload_n 0, 1) := by decide +kernel
theorem dX11_callOf_11 : decode cX11_callOf 11 = .ok (.getfield 97, 3) := by decide +kernel
theorem dX11_callOf_14 : decode cX11_callOf 14 = .ok (.iconst 1, 1) := by decide +kernel
theorem dX11_callOf_15 : decode cX11_callOf 15 = .ok (.iload_n 1, 1) := by decide +kernel
theorem dX11_callOf_16 : decode cX11_callOf 16 = .ok (.iadd, 1) := by decide +kernel
theorem dX11_callOf_17 : decode cX11_callOf 17 = .ok (.iaload, 1) := by decide +kernel
theorem dX11_callOf_18 : decode cX11_callOf 18 = .ok (.goto 9, 3) := by decide +kernel
theorem dX11_callOf_21 : decode cX11_callOf 21 = .ok (.aload_n 0, 1) := by decide +kernel
theorem dX11_callOf_22 : decode cX11_callOf 22 = .ok (.getfield 79, 3) := by decide +kernel
theorem dX11_callOf_25 : decode cX11_callOf 25 = .ok (.iload_n 1, 1) := by decide +kernel
theorem dX11_callOf_26 : decode cX11_callOf 26 = .ok (.iaload, 1) := by decide +kernel
theorem dX11_callOf_27 : decode cX11_callOf 27 = .ok (.ireturn, 1) := by decide +kernel
theorem dX11_allFrames_0 : decode cX11_allFrames 0 = .ok (.iconst 1, 1) := by decide +kernel
theorem dX11_allFrames_1 : decode cX11_allFrames 1 = .ok (.aload_n 0, 1) := by decide +kernel
theorem dX11_allFrames_2 : decode cX11_allFrames 2 = .ok (.getfield 82, 3) := by decide +kernel
theorem dX11_allFrames_5 : decode cX11_allFrames 5 = .ok (.iload_n 1, 1) := by decide +kernel
theorem dX11_allFrames_6 : decode cX11_allFrames 6 = .ok (.iaload, 1) := by decide +kernel
theorem dX11_allFrames_7 : decode cX11_allFrames 7 = .ok (.ishl, 1) := by decide +kernel
theorem dX11_allFrames_8 : decode cX11_allFrames 8 = .ok (.iconst 1, 1) := by decide +kernel
theorem dX11_allFrames_9 : decode cX11_allFrames 9 = .ok (.isub, 1) := by decide +kernel
theorem dX11_allFrames_10 : decode cX11_allFrames 10 = .ok (.ireturn, 1) := by decide +kernel
theorem dX11_atMost_0 : decode cX11_atMost 0 = .ok (.iload_n 3, 1) := by decide +kernel
theorem dX11_atMost_1 : decode cX11_atMost 1 = .ok (.aload_n 0, 1) := by decide +kernel
theorem dX11_atMost_2 : decode cX11_atMost 2 = .ok (.getfield 109, 3) := by decide +kernel
theorem dX11_atMost_5 : decode cX11_atMost 5 = .ok (.bipush 10, 2) := by decide +kernel
theorem dX11_atMost_7 : decode cX11_atMost 7 = .ok (.iload_n 1, 1) := by decide +kernel
theorem dX11_atMost_8 : decode cX11_atMost 8 = .ok (.imul, 1) := by decide +kernel
theorem dX11_atMost_9 : decode cX11_atMost 9 = .ok (.iload_n 2, 1) := by decide +kernel
theorem dX11_atMost_10 : decode cX11_atMost 10 = .ok (.iadd, 1) := by decide +kernel
theorem dX11_atMost_11 : decode cX11_atMost 11 = .ok (.iaload, 1) := by decide +kernel
theorem dX11_atMost_12 : decode cX11_atMost 12 = .ok (.if_icmp .ge 15, 3) := by decide +kernel
theorem dX11_atMost_15 : decode cX11_atMost 15 = .ok (.aload_n 0, 1) := by decide +kernel
theorem dX11_atMost_16 : decode cX11_atMost 16 = .ok (.getfield 109, 3) := by decide +kernel
theorem dX11_atMost_19 : decode cX11_atMost 19 = .ok (.bipush 10, 2) := by decide +kernel
theorem dX11_atMost_21 : decode cX11_atMost 21 = .ok (.iload_n 1, 1) := by decide +kernel
theorem dX11_atMost_22 : decode cX11_atMost 22 = .ok (.imul, 1) := by decide +kernel
theorem dX11_atMost_23 : decode cX11_atMost 23 = .ok (.iload_n 2, 1) := by decide +kernel
theorem dX11_atMost_24 : decode cX11_atMost 24 = .ok (.iadd, 1) := by decide +kernel
theorem dX11_atMost_25 : decode cX11_atMost 25 = .ok (.iload_n 3, 1) := by decide +kernel
theorem dX11_atMost_26 : decode cX11_atMost 26 = .ok (.iastore, 1) := by decide +kernel
theorem dX11_atMost_27 : decode cX11_atMost 27 = .ok (.return_, 1) := by decide +kernel
theorem dX11_laysClocks_0 : decode cX11_laysClocks 0 = .ok (.iconst 0, 1) := by decide +kernel
theorem dX11_laysClocks_1 : decode cX11_laysClocks 1 = .ok (.istore_n 1, 1) := by decide +kernel
theorem dX11_laysClocks_2 : decode cX11_laysClocks 2 = .ok (.iload_n 1, 1) := by decide +kernel
theorem dX11_laysClocks_3 : decode cX11_laysClocks 3 = .ok (.bipush 100, 2) := by decide +kernel
theorem dX11_laysClocks_5 : decode cX11_laysClocks 5 = .ok (.if_icmp .ge 29, 3) := by decide +kernel
theorem dX11_laysClocks_8 : decode cX11_laysClocks 8 = .ok (.aload_n 0, 1) := by decide +kernel
theorem dX11_laysClocks_9 : decode cX11_laysClocks 9 = .ok (.getfield 109, 3) := by decide +kernel
theorem dX11_laysClocks_12 : decode cX11_laysClocks 12 = .ok (.iload_n 1, 1) := by decide +kernel
theorem dX11_laysClocks_13 : decode cX11_laysClocks 13 = .ok (.iload_n 1, 1) := by decide +kernel
theorem dX11_laysClocks_14 : decode cX11_laysClocks 14 = .ok (.bipush 11, 2) := by decide +kernel
theorem dX11_laysClocks_16 : decode cX11_laysClocks 16 = .ok (.irem, 1) := by decide +kernel
theorem dX11_laysClocks_17 : decode cX11_laysClocks 17 = .ok (.ifCond .ne 7, 3) := by decide +kernel
theorem dX11_laysClocks_20 : decode cX11_laysClocks 20 = .ok (.iconst 0, 1) := by decide +kernel
theorem dX11_laysClocks_21 : decode cX11_laysClocks 21 = .ok (.goto 6, 3) := by decide +kernel
theorem dX11_laysClocks_24 : decode cX11_laysClocks 24 = .ok (.ldc_w 313, 3) := by decide +kernel
theorem dX11_laysClocks_27 : decode cX11_laysClocks 27 = .ok (.iastore, 1) := by decide +kernel
theorem dX11_laysClocks_28 : decode cX11_laysClocks 28 = .ok (.iinc 1 1, 3) := by decide +kernel
theorem dX11_laysClocks_31 : decode cX11_laysClocks 31 = .ok (.goto (-29), 3) := by decide +kernel
theorem dX11_laysClocks_34 : decode cX11_laysClocks 34 = .ok (.iconst 0, 1) := by decide +kernel
theorem dX11_laysClocks_35 : decode cX11_laysClocks 35 = .ok (.istore_n 1, 1) := by decide +kernel
theorem dX11_laysClocks_36 : decode cX11_laysClocks 36 = .ok (.iload_n 1, 1) := by decide +kernel
theorem dX11_laysClocks_37 : decode cX11_laysClocks 37 = .ok (.aload_n 0, 1) := by decide +kernel
theorem dX11_laysClocks_38 : decode cX11_laysClocks 38 = .ok (.getfield 13, 3) := by decide +kernel
theorem dX11_laysClocks_41 : decode cX11_laysClocks 41 = .ok (.iconst 0, 1) := by decide +kernel
theorem dX11_laysClocks_42 : decode cX11_laysClocks 42 = .ok (.iaload, 1) := by decide +kernel
theorem dX11_laysClocks_43 : decode cX11_laysClocks 43 = .ok (.if_icmp .ge 38, 3) := by decide +kernel
theorem dX11_laysClocks_46 : decode cX11_laysClocks 46 = .ok (.aload_n 0, 1) := by decide +kernel
theorem dX11_laysClocks_47 : decode cX11_laysClocks 47 = .ok (.iconst 0, 1) := by decide +kernel
theorem dX11_laysClocks_48 : decode cX11_laysClocks 48 = .ok (.iconst 1, 1) := by decide +kernel
theorem dX11_laysClocks_49 : decode cX11_laysClocks 49 = .ok (.iload_n 1, 1) := by decide +kernel
theorem dX11_laysClocks_50 : decode cX11_laysClocks 50 = .ok (.iadd, 1) := by decide +kernel
theorem dX11_laysClocks_51 : decode cX11_laysClocks 51 = .ok (.aload_n 0, 1) := by decide +kernel
theorem dX11_laysClocks_52 : decode cX11_laysClocks 52 = .ok (.getfield 28, 3) := by decide +kernel
theorem dX11_laysClocks_55 : decode cX11_laysClocks 55 = .ok (.iload_n 1, 1) := by decide +kernel
theorem dX11_laysClocks_56 : decode cX11_laysClocks 56 = .ok (.iaload, 1) := by decide +kernel
theorem dX11_laysClocks_57 : decode cX11_laysClocks 57 = .ok (.ineg, 1) := by decide +kernel
theorem dX11_laysClocks_58 : decode cX11_laysClocks 58 = .ok (.invokevirtual 314, 3) := by decide +kernel
theorem dX11_laysClocks_61 : decode cX11_laysClocks 61 = .ok (.aload_n 0, 1) := by decide +kernel
theorem dX11_laysClocks_62 : decode cX11_laysClocks 62 = .ok (.iconst 1, 1) := by decide +kernel
theorem dX11_laysClocks_63 : decode cX11_laysClocks 63 = .ok (.iload_n 1, 1) := by decide +kernel
theorem dX11_laysClocks_64 : decode cX11_laysClocks 64 = .ok (.iadd, 1) := by decide +kernel
theorem dX11_laysClocks_65 : decode cX11_laysClocks 65 = .ok (.iconst 0, 1) := by decide +kernel
theorem dX11_laysClocks_66 : decode cX11_laysClocks 66 = .ok (.aload_n 0, 1) := by decide +kernel
theorem dX11_laysClocks_67 : decode cX11_laysClocks 67 = .ok (.getfield 31, 3) := by decide +kernel
theorem dX11_laysClocks_70 : decode cX11_laysClocks 70 = .ok (.iload_n 1, 1) := by decide +kernel
theorem dX11_laysClocks_71 : decode cX11_laysClocks 71 = .ok (.iaload, 1) := by decide +kernel
theorem dX11_laysClocks_72 : decode cX11_laysClocks 72 = .ok (.invokevirtual 314, 3) := by decide +kernel
theorem dX11_laysClocks_75 : decode cX11_laysClocks 75 = .ok (.iinc 1 1, 3) := by decide +kernel
theorem dX11_laysClocks_78 : decode cX11_laysClocks 78 = .ok (.goto (-42), 3) := by decide +kernel
theorem dX11_laysClocks_81 : decode cX11_laysClocks 81 = .ok (.iconst 0, 1) := by decide +kernel
theorem dX11_laysClocks_82 : decode cX11_laysClocks 82 = .ok (.istore_n 1, 1) := by decide +kernel
theorem dX11_laysClocks_83 : decode cX11_laysClocks 83 = .ok (.iload_n 1, 1) := by decide +kernel
theorem dX11_laysClocks_84 : decode cX11_laysClocks 84 = .ok (.aload_n 0, 1) := by decide +kernel
theorem dX11_laysClocks_85 : decode cX11_laysClocks 85 = .ok (.getfield 13, 3) := by decide +kernel
theorem dX11_laysClocks_88 : decode cX11_laysClocks 88 = .ok (.iconst 5, 1) := by decide +kernel
theorem dX11_laysClocks_89 : decode cX11_laysClocks 89 = .ok (.iaload, 1) := by decide +kernel
theorem dX11_laysClocks_90 : decode cX11_laysClocks 90 = .ok (.if_icmp .ge 73, 3) := by decide +kernel
theorem dX11_laysClocks_93 : decode cX11_laysClocks 93 = .ok (.iconst 1, 1) := by decide +kernel
theorem dX11_laysClocks_94 : decode cX11_laysClocks 94 = .ok (.aload_n 0, 1) := by decide +kernel
theorem dX11_laysClocks_95 : decode cX11_laysClocks 95 = .ok (.getfield 34, 3) := by decide +kernel
theorem dX11_laysClocks_98 : decode cX11_laysClocks 98 = .ok (.iconst 4, 1) := by decide +kernel
theorem dX11_laysClocks_99 : decode cX11_laysClocks 99 = .ok (.iload_n 1, 1) := by decide +kernel
theorem dX11_laysClocks_100 : decode cX11_laysClocks 100 = .ok (.imul, 1) := by decide +kernel
theorem dX11_laysClocks_101 : decode cX11_laysClocks 101 = .ok (.iaload, 1) := by decide +kernel
theorem dX11_laysClocks_102 : decode cX11_laysClocks 102 = .ok (.iadd, 1) := by decide +kernel
theorem dX11_laysClocks_103 : decode cX11_laysClocks 103 = .ok (.istore_n 2, 1) := by decide +kernel
theorem dX11_laysClocks_104 : decode cX11_laysClocks 104 = .ok (.iconst 1, 1) := by decide +kernel
theorem dX11_laysClocks_105 : decode cX11_laysClocks 105 = .ok (.aload_n 0, 1) := by decide +kernel
theorem dX11_laysClocks_106 : decode cX11_laysClocks 106 = .ok (.getfield 34, 3) := by decide +kernel
theorem dX11_laysClocks_109 : decode cX11_laysClocks 109 = .ok (.iconst 4, 1) := by decide +kernel
theorem dX11_laysClocks_110 : decode cX11_laysClocks 110 = .ok (.iload_n 1, 1) := by decide +kernel
theorem dX11_laysClocks_111 : decode cX11_laysClocks 111 = .ok (.imul, 1) := by decide +kernel
theorem dX11_laysClocks_112 : decode cX11_laysClocks 112 = .ok (.iconst 2, 1) := by decide +kernel
theorem dX11_laysClocks_113 : decode cX11_laysClocks 113 = .ok (.iadd, 1) := by decide +kernel
theorem dX11_laysClocks_114 : decode cX11_laysClocks 114 = .ok (.iaload, 1) := by decide +kernel
theorem dX11_laysClocks_115 : decode cX11_laysClocks 115 = .ok (.iadd, 1) := by decide +kernel
theorem dX11_laysClocks_116 : decode cX11_laysClocks 116 = .ok (.istore_n 3, 1) := by decide +kernel
theorem dX11_laysClocks_117 : decode cX11_laysClocks 117 = .ok (.aload_n 0, 1) := by decide +kernel
theorem dX11_laysClocks_118 : decode cX11_laysClocks 118 = .ok (.getfield 34, 3) := by decide +kernel
theorem dX11_laysClocks_121 : decode cX11_laysClocks 121 = .ok (.iconst 4, 1) := by decide +kernel
theorem dX11_laysClocks_122 : decode cX11_laysClocks 122 = .ok (.iload_n 1, 1) := by decide +kernel
theorem dX11_laysClocks_123 : decode cX11_laysClocks 123 = .ok (.imul, 1) := by decide +kernel
theorem dX11_laysClocks_124 : decode cX11_laysClocks 124 = .ok (.iconst 3, 1) := by decide +kernel
theorem dX11_laysClocks_125 : decode cX11_laysClocks 125 = .ok (.iadd, 1) := by decide +kernel
theorem dX11_laysClocks_126 : decode cX11_laysClocks 126 = .ok (.iaload, 1) := by decide +kernel
theorem dX11_laysClocks_127 : decode cX11_laysClocks 127 = .ok (.aload_n 0, 1) := by decide +kernel
theorem dX11_laysClocks_128 : decode cX11_laysClocks 128 = .ok (.getfield 34, 3) := by decide +kernel
theorem dX11_laysClocks_131 : decode cX11_laysClocks 131 = .ok (.iconst 4, 1) := by decide +kernel
theorem dX11_laysClocks_132 : decode cX11_laysClocks 132 = .ok (.iload_n 1, 1) := by decide +kernel
theorem dX11_laysClocks_133 : decode cX11_laysClocks 133 = .ok (.imul, 1) := by decide +kernel
theorem dX11_laysClocks_134 : decode cX11_laysClocks 134 = .ok (.iconst 1, 1) := by decide +kernel
theorem dX11_laysClocks_135 : decode cX11_laysClocks 135 = .ok (.iadd, 1) := by decide +kernel
theorem dX11_laysClocks_136 : decode cX11_laysClocks 136 = .ok (.iaload, 1) := by decide +kernel
theorem dX11_laysClocks_137 : decode cX11_laysClocks 137 = .ok (.isub, 1) := by decide +kernel
theorem dX11_laysClocks_138 : decode cX11_laysClocks 138 = .ok (.istore 4, 2) := by decide +kernel
theorem dX11_laysClocks_140 : decode cX11_laysClocks 140 = .ok (.aload_n 0, 1) := by decide +kernel
theorem dX11_laysClocks_141 : decode cX11_laysClocks 141 = .ok (.iload_n 3, 1) := by decide +kernel
theorem dX11_laysClocks_142 : decode cX11_laysClocks 142 = .ok (.iload_n 2, 1) := by decide +kernel
theorem dX11_laysClocks_143 : decode cX11_laysClocks 143 = .ok (.iload 4, 2) := by decide +kernel
theorem dX11_laysClocks_145 : decode cX11_laysClocks 145 = .ok (.invokevirtual 314, 3) := by decide +kernel
theorem dX11_laysClocks_148 : decode cX11_laysClocks 148 = .ok (.aload_n 0, 1) := by decide +kernel
theorem dX11_laysClocks_149 : decode cX11_laysClocks 149 = .ok (.iload_n 2, 1) := by decide +kernel
theorem dX11_laysClocks_150 : decode cX11_laysClocks 150 = .ok (.iload_n 3, 1) := by decide +kernel
theorem dX11_laysClocks_151 : decode cX11_laysClocks 151 = .ok (.iload 4, 2) := by decide +kernel
theorem dX11_laysClocks_153 : decode cX11_laysClocks 153 = .ok (.ineg, 1) := by decide +kernel
theorem dX11_laysClocks_154 : decode cX11_laysClocks 154 = .ok (.invokevirtual 314, 3) := by decide +kernel
theorem dX11_laysClocks_157 : decode cX11_laysClocks 157 = .ok (.iinc 1 1, 3) := by decide +kernel
theorem dX11_laysClocks_160 : decode cX11_laysClocks 160 = .ok (.goto (-77), 3) := by decide +kernel
theorem dX11_laysClocks_163 : decode cX11_laysClocks 163 = .ok (.return_, 1) := by decide +kernel
theorem dX11_laysFrames_0 : decode cX11_laysFrames 0 = .ok (.aload_n 0, 1) := by decide +kernel
theorem dX11_laysFrames_1 : decode cX11_laysFrames 1 = .ok (.invokevirtual 318, 3) := by decide +kernel
theorem dX11_laysFrames_4 : decode cX11_laysFrames 4 = .ok (.iconst 0, 1) := by decide +kernel
theorem dX11_laysFrames_5 : decode cX11_laysFrames 5 = .ok (.istore_n 3, 1) := by decide +kernel
theorem dX11_laysFrames_6 : decode cX11_laysFrames 6 = .ok (.iload_n 3, 1) := by decide +kernel
theorem dX11_laysFrames_7 : decode cX11_laysFrames 7 = .ok (.aload_n 0, 1) := by decide +kernel
theorem dX11_laysFrames_8 : decode cX11_laysFrames 8 = .ok (.getfield 82, 3) := by decide +kernel
theorem dX11_laysFrames_11 : decode cX11_laysFrames 11 = .ok (.iload_n 1, 1) := by decide +kernel
theorem dX11_laysFrames_12 : decode cX11_laysFrames 12 = .ok (.iaload, 1) := by decide +kernel
theorem dX11_laysFrames_13 : decode cX11_laysFrames 13 = .ok (.if_icmp .ge 120, 3) := by decide +kernel
theorem dX11_laysFrames_16 : decode cX11_laysFrames 16 = .ok (.bipush 10, 2) := by decide +kernel
theorem dX11_laysFrames_18 : decode cX11_laysFrames 18 = .ok (.iload_n 1, 1) := by decide +kernel
theorem dX11_laysFrames_19 : decode cX11_laysFrames 19 = .ok (.imul, 1) := by decide +kernel
theorem dX11_laysFrames_20 : decode cX11_laysFrames 20 = .ok (.iload_n 3, 1) := by decide +kernel
theorem dX11_laysFrames_21 : decode cX11_laysFrames 21 = .ok (.iadd, 1) := by decide +kernel
theorem dX11_laysFrames_22 : decode cX11_laysFrames 22 = .ok (.istore 4, 2) := by decide +kernel
theorem dX11_laysFrames_24 : decode cX11_laysFrames 24 = .ok (.iconst 1, 1) := by decide +kernel
theorem dX11_laysFrames_25 : decode cX11_laysFrames 25 = .ok (.aload_n 0, 1) := by decide +kernel
theorem dX11_laysFrames_26 : decode cX11_laysFrames 26 = .ok (.getfield 85, 3) := by decide +kernel
theorem dX11_laysFrames_29 : decode cX11_laysFrames 29 = .ok (.iload 4, 2) := by decide +kernel
theorem dX11_laysFrames_31 : decode cX11_laysFrames 31 = .ok (.iaload, 1) := by decide +kernel
theorem dX11_laysFrames_32 : decode cX11_laysFrames 32 = .ok (.iadd, 1) := by decide +kernel
theorem dX11_laysFrames_33 : decode cX11_laysFrames 33 = .ok (.istore 5, 2) := by decide +kernel
theorem dX11_laysFrames_35 : decode cX11_laysFrames 35 = .ok (.iconst 0, 1) := by decide +kernel
theorem dX11_laysFrames_36 : decode cX11_laysFrames 36 = .ok (.istore 6, 2) := by decide +kernel
theorem dX11_laysFrames_38 : decode cX11_laysFrames 38 = .ok (.iload 6, 2) := by decide +kernel
theorem dX11_laysFrames_40 : decode cX11_laysFrames 40 = .ok (.iconst 4, 1) := by decide +kernel
theorem dX11_laysFrames_41 : decode cX11_laysFrames 41 = .ok (.if_icmp .ge 86, 3) := by decide +kernel
theorem dX11_laysFrames_44 : decode cX11_laysFrames 44 = .ok (.iload_n 2, 1) := by decide +kernel
theorem dX11_laysFrames_45 : decode cX11_laysFrames 45 = .ok (.iload_n 3, 1) := by decide +kernel
theorem dX11_laysFrames_46 : decode cX11_laysFrames 46 = .ok (.invokestatic 266, 3) := by decide +kernel
theorem dX11_laysFrames_49 : decode cX11_laysFrames 49 = .ok (.ifCond .eq 78, 3) := by decide +kernel
theorem dX11_laysFrames_52 : decode cX11_laysFrames 52 = .ok (.aload_n 0, 1) := by decide +kernel
theorem dX11_laysFrames_53 : decode cX11_laysFrames 53 = .ok (.getfield 91, 3) := by decide +kernel
theorem dX11_laysFrames_56 : decode cX11_laysFrames 56 = .ok (.iload 4, 2) := by decide +kernel
theorem dX11_laysFrames_58 : decode cX11_laysFrames 58 = .ok (.iaload, 1) := by decide +kernel
theorem dX11_laysFrames_59 : decode cX11_laysFrames 59 = .ok (.iload 6, 2) := by decide +kernel
theorem dX11_laysFrames_61 : decode cX11_laysFrames 61 = .ok (.invokestatic 266, 3) := by decide +kernel
theorem dX11_laysFrames_64 : decode cX11_laysFrames 64 = .ok (.ifCond .eq 21, 3) := by decide +kernel
theorem dX11_laysFrames_67 : decode cX11_laysFrames 67 = .ok (.aload_n 0, 1) := by decide +kernel
theorem dX11_laysFrames_68 : decode cX11_laysFrames 68 = .ok (.iload 5, 2) := by decide +kernel
theorem dX11_laysFrames_70 : decode cX11_laysFrames 70 = .ok (.bipush 6, 2) := by decide +kernel
theorem dX11_laysFrames_72 : decode cX11_laysFrames 72 = .ok (.iload 6, 2) := by decide +kernel
theorem dX11_laysFrames_74 : decode cX11_laysFrames 74 = .ok (.iadd, 1) := by decide +kernel
theorem dX11_laysFrames_75 : decode cX11_laysFrames 75 = .ok (.aload_n 0, 1) := by decide +kernel
theorem dX11_laysFrames_76 : decode cX11_laysFrames 76 = .ok (.getfield 88, 3) := by decide +kernel
theorem dX11_laysFrames_79 : decode cX11_laysFrames 79 = .ok (.iload 4, 2) := by decide +kernel
theorem dX11_laysFrames_81 : decode cX11_laysFrames 81 = .ok (.iaload, 1) := by decide +kernel
theorem dX11_laysFrames_82 : decode cX11_laysFrames 82 = .ok (.invokevirtual 314, 3) := by decide +kernel
theorem dX11_laysFrames_85 : decode cX11_laysFrames 85 = .ok (.aload_n 0, 1) := by decide +kernel
theorem dX11_laysFrames_86 : decode cX11_laysFrames 86 = .ok (.getfield 94, 3) := by decide +kernel
theorem dX11_laysFrames_89 : decode cX11_laysFrames 89 = .ok (.iload 4, 2) := by decide +kernel
theorem dX11_laysFrames_91 : decode cX11_laysFrames 91 = .ok (.iaload, 1) := by decide +kernel
theorem dX11_laysFrames_92 : decode cX11_laysFrames 92 = .ok (.iload 6, 2) := by decide +kernel
theorem dX11_laysFrames_94 : decode cX11_laysFrames 94 = .ok (.invokestatic 266, 3) := by decide +kernel
theorem dX11_laysFrames_97 : decode cX11_laysFrames 97 = .ok (.ifCond .eq 24, 3) := by decide +kernel
theorem dX11_laysFrames_100 : decode cX11_laysFrames 100 = .ok (.aload_n 0, 1) := by decide +kernel
theorem dX11_laysFrames_101 : decode cX11_laysFrames 101 = .ok (.bipush 6, 2) := by decide +kernel
theorem dX11_laysFrames_103 : decode cX11_laysFrames 103 = .ok (.iload 6, 2) := by decide +kernel
theorem dX11_laysFrames_105 : decode cX11_laysFrames 105 = .ok (.iadd, 1) := by decide +kernel
theorem dX11_laysFrames_106 : decode cX11_laysFrames 106 = .ok (.iload 5, 2) := by decide +kernel
theorem dX11_laysFrames_108 : decode cX11_laysFrames 108 = .ok (.aload_n 0, 1) := by decide +kernel
theorem dX11_laysFrames_109 : decode cX11_laysFrames 109 = .ok (.getfield 88, 3) := by decide +kernel
theorem dX11_laysFrames_112 : decode cX11_laysFrames 112 = .ok (.iload 4, 2) := by decide +kernel
theorem dX11_laysFrames_114 : decode cX11_laysFrames 114 = .ok (.iaload, 1) := by decide +kernel
theorem dX11_laysFrames_115 : decode cX11_laysFrames 115 = .ok (.ineg, 1) := by decide +kernel
theorem dX11_laysFrames_116 : decode cX11_laysFrames 116 = .ok (.iconst 1, 1) := by decide +kernel
theorem dX11_laysFrames_117 : decode cX11_laysFrames 117 = .ok (.isub, 1) := by decide +kernel
theorem dX11_laysFrames_118 : decode cX11_laysFrames 118 = .ok (.invokevirtual 314, 3) := by decide +kernel
theorem dX11_laysFrames_121 : decode cX11_laysFrames 121 = .ok (.iinc 6 1, 3) := by decide +kernel
theorem dX11_laysFrames_124 : decode cX11_laysFrames 124 = .ok (.goto (-86), 3) := by decide +kernel
theorem dX11_laysFrames_127 : decode cX11_laysFrames 127 = .ok (.iinc 3 1, 3) := by decide +kernel
theorem dX11_laysFrames_130 : decode cX11_laysFrames 130 = .ok (.goto (-124), 3) := by decide +kernel
theorem dX11_laysFrames_133 : decode cX11_laysFrames 133 = .ok (.return_, 1) := by decide +kernel
theorem dX11_closes_0 : decode cX11_closes 0 = .ok (.iconst 0, 1) := by decide +kernel
theorem dX11_closes_1 : decode cX11_closes 1 = .ok (.istore_n 1, 1) := by decide +kernel
theorem dX11_closes_2 : decode cX11_closes 2 = .ok (.iload_n 1, 1) := by decide +kernel
theorem dX11_closes_3 : decode cX11_closes 3 = .ok (.bipush 10, 2) := by decide +kernel
theorem dX11_closes_5 : decode cX11_closes 5 = .ok (.if_icmp .ge 103, 3) := by decide +kernel
theorem dX11_closes_8 : decode cX11_closes 8 = .ok (.iconst 0, 1) := by decide +kernel
theorem dX11_closes_9 : decode cX11_closes 9 = .ok (.istore_n 2, 1) := by decide +kernel
theorem dX11_closes_10 : decode cX11_closes 10 = .ok (.iload_n 2, 1) := by decide +kernel
theorem dX11_closes_11 : decode cX11_closes 11 = .ok (.bipush 10, 2) := by decide +kernel
theorem dX11_closes_13 : decode cX11_closes 13 = .ok (.if_icmp .ge 89, 3) := by decide +kernel
theorem dX11_closes_16 : decode cX11_closes 16 = .ok (.aload_n 0, 1) := by decide +kernel
theorem dX11_closes_17 : decode cX11_closes 17 = .ok (.getfield 109, 3) := by decide +kernel
theorem dX11_closes_20 : decode cX11_closes 20 = .ok (.bipush 10, 2) := by decide +kernel
theorem dX11_closes_22 : decode cX11_closes 22 = .ok (.iload_n 2, 1) := by decide +kernel
theorem dX11_closes_23 : decode cX11_closes 23 = .ok (.imul, 1) := by decide +kernel
theorem dX11_closes_24 : decode cX11_closes 24 = .ok (.iload_n 1, 1) := by decide +kernel
theorem dX11_closes_25 : decode cX11_closes 25 = .ok (.iadd, 1) := by decide +kernel
theorem dX11_closes_26 : decode cX11_closes 26 = .ok (.iaload, 1) := by decide +kernel
theorem dX11_closes_27 : decode cX11_closes 27 = .ok (.ldc_w 313, 3) := by decide +kernel
theorem dX11_closes_30 : decode cX11_closes 30 = .ok (.if_icmp .ne 6, 3) := by decide +kernel
theorem dX11_closes_33 : decode cX11_closes 33 = .ok (.goto 63, 3) := by decide +kernel
theorem dX11_closes_36 : decode cX11_closes 36 = .ok (.iconst 0, 1) := by decide +kernel
theorem dX11_closes_37 : decode cX11_closes 37 = .ok (.istore_n 3, 1) := by decide +kernel
theorem dX11_closes_38 : decode cX11_closes 38 = .ok (.iload_n 3, 1) := by decide +kernel
theorem dX11_closes_39 : decode cX11_closes 39 = .ok (.bipush 10, 2) := by decide +kernel
theorem dX11_closes_41 : decode cX11_closes 41 = .ok (.if_icmp .ge 55, 3) := by decide +kernel
theorem dX11_closes_44 : decode cX11_closes 44 = .ok (.aload_n 0, 1) := by decide +kernel
theorem dX11_closes_45 : decode cX11_closes 45 = .ok (.getfield 109, 3) := by decide +kernel
theorem dX11_closes_48 : decode cX11_closes 48 = .ok (.bipush 10, 2) := by decide +kernel
theorem dX11_closes_50 : decode cX11_closes 50 = .ok (.iload_n 1, 1) := by decide +kernel
theorem dX11_closes_51 : decode cX11_closes 51 = .ok (.imul, 1) := by decide +kernel
theorem dX11_closes_52 : decode cX11_closes 52 = .ok (.iload_n 3, 1) := by decide +kernel
theorem dX11_closes_53 : decode cX11_closes 53 = .ok (.iadd, 1) := by decide +kernel
theorem dX11_closes_54 : decode cX11_closes 54 = .ok (.iaload, 1) := by decide +kernel
theorem dX11_closes_55 : decode cX11_closes 55 = .ok (.ldc_w 313, 3) := by decide +kernel
theorem dX11_closes_58 : decode cX11_closes 58 = .ok (.if_icmp .ge 32, 3) := by decide +kernel
theorem dX11_closes_61 : decode cX11_closes 61 = .ok (.aload_n 0, 1) := by decide +kernel
theorem dX11_closes_62 : decode cX11_closes 62 = .ok (.iload_n 2, 1) := by decide +kernel
theorem dX11_closes_63 : decode cX11_closes 63 = .ok (.iload_n 3, 1) := by decide +kernel
theorem dX11_closes_64 : decode cX11_closes 64 = .ok (.aload_n 0, 1) := by decide +kernel
theorem dX11_closes_65 : decode cX11_closes 65 = .ok (.getfield 109, 3) := by decide +kernel
theorem dX11_closes_68 : decode cX11_closes 68 = .ok (.bipush 10, 2) := by decide +kernel
theorem dX11_closes_70 : decode cX11_closes 70 = .ok (.iload_n 2, 1) := by decide +kernel
theorem dX11_closes_71 : decode cX11_closes 71 = .ok (.imul, 1) := by decide +kernel
theorem dX11_closes_72 : decode cX11_closes 72 = .ok (.iload_n 1, 1) := by decide +kernel
theorem dX11_closes_73 : decode cX11_closes 73 = .ok (.iadd, 1) := by decide +kernel
theorem dX11_closes_74 : decode cX11_closes 74 = .ok (.iaload, 1) := by decide +kernel
theorem dX11_closes_75 : decode cX11_closes 75 = .ok (.aload_n 0, 1) := by decide +kernel
theorem dX11_closes_76 : decode cX11_closes 76 = .ok (.getfield 109, 3) := by decide +kernel
theorem dX11_closes_79 : decode cX11_closes 79 = .ok (.bipush 10, 2) := by decide +kernel
theorem dX11_closes_81 : decode cX11_closes 81 = .ok (.iload_n 1, 1) := by decide +kernel
theorem dX11_closes_82 : decode cX11_closes 82 = .ok (.imul, 1) := by decide +kernel
theorem dX11_closes_83 : decode cX11_closes 83 = .ok (.iload_n 3, 1) := by decide +kernel
theorem dX11_closes_84 : decode cX11_closes 84 = .ok (.iadd, 1) := by decide +kernel
theorem dX11_closes_85 : decode cX11_closes 85 = .ok (.iaload, 1) := by decide +kernel
theorem dX11_closes_86 : decode cX11_closes 86 = .ok (.iadd, 1) := by decide +kernel
theorem dX11_closes_87 : decode cX11_closes 87 = .ok (.invokevirtual 314, 3) := by decide +kernel
theorem dX11_closes_90 : decode cX11_closes 90 = .ok (.iinc 3 1, 3) := by decide +kernel
theorem dX11_closes_93 : decode cX11_closes 93 = .ok (.goto (-55), 3) := by decide +kernel
theorem dX11_closes_96 : decode cX11_closes 96 = .ok (.iinc 2 1, 3) := by decide +kernel
theorem dX11_closes_99 : decode cX11_closes 99 = .ok (.goto (-89), 3) := by decide +kernel
theorem dX11_closes_102 : decode cX11_closes 102 = .ok (.iinc 1 1, 3) := by decide +kernel
theorem dX11_closes_105 : decode cX11_closes 105 = .ok (.goto (-103), 3) := by decide +kernel
theorem dX11_closes_108 : decode cX11_closes 108 = .ok (.iconst 0, 1) := by decide +kernel
theorem dX11_closes_109 : decode cX11_closes 109 = .ok (.istore_n 1, 1) := by decide +kernel
theorem dX11_closes_110 : decode cX11_closes 110 = .ok (.iload_n 1, 1) := by decide +kernel
theorem dX11_closes_111 : decode cX11_closes 111 = .ok (.bipush 10, 2) := by decide +kernel
theorem dX11_closes_113 : decode cX11_closes 113 = .ok (.if_icmp .ge 23, 3) := by decide +kernel
theorem dX11_closes_116 : decode cX11_closes 116 = .ok (.aload_n 0, 1) := by decide +kernel
theorem dX11_closes_117 : decode cX11_closes 117 = .ok (.getfield 109, 3) := by decide +kernel
theorem dX11_closes_120 : decode cX11_closes 120 = .ok (.bipush 11, 2) := by decide +kernel
theorem dX11_closes_122 : decode cX11_closes 122 = .ok (.iload_n 1, 1) := by decide +kernel
theorem dX11_closes_123 : decode cX11_closes 123 = .ok (.imul, 1) := by decide +kernel
theorem dX11_closes_124 : decode cX11_closes 124 = .ok (.iaload, 1) := by decide +kernel
theorem dX11_closes_125 : decode cX11_closes 125 = .ok (.ifCond .ge 5, 3) := by decide +kernel
theorem dX11_closes_128 : decode cX11_closes 128 = .ok (.iconst 0, 1) := by decide +kernel
theorem dX11_closes_129 : decode cX11_closes 129 = .ok (.ireturn, 1) := by decide +kernel
theorem dX11_closes_130 : decode cX11_closes 130 = .ok (.iinc 1 1, 3) := by decide +kernel
theorem dX11_closes_133 : decode cX11_closes 133 = .ok (.goto (-23), 3) := by decide +kernel
theorem dX11_closes_136 : decode cX11_closes 136 = .ok (.iconst 1, 1) := by decide +kernel
theorem dX11_closes_137 : decode cX11_closes 137 = .ok (.ireturn, 1) := by decide +kernel
theorem dX11_verdictOf_0 : decode cX11_verdictOf 0 = .ok (.aload_n 0, 1) := by decide +kernel
theorem dX11_verdictOf_1 : decode cX11_verdictOf 1 = .ok (.iload_n 1, 1) := by decide +kernel
theorem dX11_verdictOf_2 : decode cX11_verdictOf 2 = .ok (.iload_n 2, 1) := by decide +kernel
theorem dX11_verdictOf_3 : decode cX11_verdictOf 3 = .ok (.invokevirtual 321, 3) := by decide +kernel
theorem dX11_verdictOf_6 : decode cX11_verdictOf 6 = .ok (.aload_n 0, 1) := by decide +kernel
theorem dX11_verdictOf_7 : decode cX11_verdictOf 7 = .ok (.invokevirtual 325, 3) := by decide +kernel
theorem dX11_verdictOf_10 : decode cX11_verdictOf 10 = .ok (.ifCond .ne 5, 3) := by decide +kernel
theorem dX11_verdictOf_13 : decode cX11_verdictOf 13 = .ok (.iconst 3, 1) := by decide +kernel
theorem dX11_verdictOf_14 : decode cX11_verdictOf 14 = .ok (.ireturn, 1) := by decide +kernel
theorem dX11_verdictOf_15 : decode cX11_verdictOf 15 = .ok (.aload_n 0, 1) := by decide +kernel
theorem dX11_verdictOf_16 : decode cX11_verdictOf 16 = .ok (.getfield 70, 3) := by decide +kernel
theorem dX11_verdictOf_19 : decode cX11_verdictOf 19 = .ok (.iload_n 1, 1) := by decide +kernel
theorem dX11_verdictOf_20 : decode cX11_verdictOf 20 = .ok (.iaload, 1) := by decide +kernel
theorem dX11_verdictOf_21 : decode cX11_verdictOf 21 = .ok (.istore_n 3, 1) := by decide +kernel
theorem dX11_verdictOf_22 : decode cX11_verdictOf 22 = .ok (.iconst 1, 1) := by decide +kernel
theorem dX11_verdictOf_23 : decode cX11_verdictOf 23 = .ok (.istore 4, 2) := by decide +kernel
theorem dX11_verdictOf_25 : decode cX11_verdictOf 25 = .ok (.iconst 3, 1) := by decide +kernel
theorem dX11_verdictOf_26 : decode cX11_verdictOf 26 = .ok (.iload_n 3, 1) := by decide +kernel
theorem dX11_verdictOf_27 : decode cX11_verdictOf 27 = .ok (.imul, 1) := by decide +kernel
theorem dX11_verdictOf_28 : decode cX11_verdictOf 28 = .ok (.istore 5, 2) := by decide +kernel
theorem dX11_verdictOf_30 : decode cX11_verdictOf 30 = .ok (.iload 5, 2) := by decide +kernel
theorem dX11_verdictOf_32 : decode cX11_verdictOf 32 = .ok (.iconst 3, 1) := by decide +kernel
theorem dX11_verdictOf_33 : decode cX11_verdictOf 33 = .ok (.iload_n 3, 1) := by decide +kernel
theorem dX11_verdictOf_34 : decode cX11_verdictOf 34 = .ok (.imul, 1) := by decide +kernel
theorem dX11_verdictOf_35 : decode cX11_verdictOf 35 = .ok (.aload_n 0, 1) := by decide +kernel
theorem dX11_verdictOf_36 : decode cX11_verdictOf 36 = .ok (.getfield 49, 3) := by decide +kernel
theorem dX11_verdictOf_39 : decode cX11_verdictOf 39 = .ok (.iload_n 3, 1) := by decide +kernel
theorem dX11_verdictOf_40 : decode cX11_verdictOf 40 = .ok (.iaload, 1) := by decide +kernel
theorem dX11_verdictOf_41 : decode cX11_verdictOf 41 = .ok (.iadd, 1) := by decide +kernel
theorem dX11_verdictOf_42 : decode cX11_verdictOf 42 = .ok (.if_icmp .ge 51, 3) := by decide +kernel
theorem dX11_verdictOf_45 : decode cX11_verdictOf 45 = .ok (.iload 4, 2) := by decide +kernel
theorem dX11_verdictOf_47 : decode cX11_verdictOf 47 = .ok (.aload_n 0, 1) := by decide +kernel
theorem dX11_verdictOf_48 : decode cX11_verdictOf 48 = .ok (.getfield 109, 3) := by decide +kernel
theorem dX11_verdictOf_51 : decode cX11_verdictOf 51 = .ok (.bipush 10, 2) := by decide +kernel
theorem dX11_verdictOf_53 : decode cX11_verdictOf 53 = .ok (.bipush 6, 2) := by decide +kernel
theorem dX11_verdictOf_55 : decode cX11_verdictOf 55 = .ok (.aload_n 0, 1) := by decide +kernel
theorem dX11_verdictOf_56 : decode cX11_verdictOf 56 = .ok (.getfield 55, 3) := by decide +kernel
theorem dX11_verdictOf_59 : decode cX11_verdictOf 59 = .ok (.iload 5, 2) := by decide +kernel
theorem dX11_verdictOf_61 : decode cX11_verdictOf 61 = .ok (.iaload, 1) := by decide +kernel
theorem dX11_verdictOf_62 : decode cX11_verdictOf 62 = .ok (.iadd, 1) := by decide +kernel
theorem dX11_verdictOf_63 : decode cX11_verdictOf 63 = .ok (.imul, 1) := by decide +kernel
theorem dX11_verdictOf_64 : decode cX11_verdictOf 64 = .ok (.bipush 6, 2) := by decide +kernel
theorem dX11_verdictOf_66 : decode cX11_verdictOf 66 = .ok (.iadd, 1) := by decide +kernel
theorem dX11_verdictOf_67 : decode cX11_verdictOf 67 = .ok (.aload_n 0, 1) := by decide +kernel
theorem dX11_verdictOf_68 : decode cX11_verdictOf 68 = .ok (.getfield 52, 3) := by decide +kernel
theorem dX11_verdictOf_71 : decode cX11_verdictOf 71 = .ok (.iload 5, 2) := by decide +kernel
theorem dX11_verdictOf_73 : decode cX11_verdictOf 73 = .ok (.iaload, 1) := by decide +kernel
theorem dX11_verdictOf_74 : decode cX11_verdictOf 74 = .ok (.iadd, 1) := by decide +kernel
theorem dX11_verdictOf_75 : decode cX11_verdictOf 75 = .ok (.iaload, 1) := by decide +kernel
theorem dX11_verdictOf_76 : decode cX11_verdictOf 76 = .ok (.ifCond .ge 7, 3) := by decide +kernel
theorem dX11_verdictOf_79 : decode cX11_verdictOf 79 = .ok (.iconst 1, 1) := by decide +kernel
theorem dX11_verdictOf_80 : decode cX11_verdictOf 80 = .ok (.goto 4, 3) := by decide +kernel
theorem dX11_verdictOf_83 : decode cX11_verdictOf 83 = .ok (.iconst 0, 1) := by decide +kernel
theorem dX11_verdictOf_84 : decode cX11_verdictOf 84 = .ok (.iand, 1) := by decide +kernel
theorem dX11_verdictOf_85 : decode cX11_verdictOf 85 = .ok (.istore 4, 2) := by decide +kernel
theorem dX11_verdictOf_87 : decode cX11_verdictOf 87 = .ok (.iinc 5 1, 3) := by decide +kernel
theorem dX11_verdictOf_90 : decode cX11_verdictOf 90 = .ok (.goto (-60), 3) := by decide +kernel
theorem dX11_verdictOf_93 : decode cX11_verdictOf 93 = .ok (.iload 4, 2) := by decide +kernel
theorem dX11_verdictOf_95 : decode cX11_verdictOf 95 = .ok (.ifCond .eq 5, 3) := by decide +kernel
theorem dX11_verdictOf_98 : decode cX11_verdictOf 98 = .ok (.iconst 1, 1) := by decide +kernel
theorem dX11_verdictOf_99 : decode cX11_verdictOf 99 = .ok (.ireturn, 1) := by decide +kernel
theorem dX11_verdictOf_100 : decode cX11_verdictOf 100 = .ok (.iconst 3, 1) := by decide +kernel
theorem dX11_verdictOf_101 : decode cX11_verdictOf 101 = .ok (.iload_n 3, 1) := by decide +kernel
theorem dX11_verdictOf_102 : decode cX11_verdictOf 102 = .ok (.imul, 1) := by decide +kernel
theorem dX11_verdictOf_103 : decode cX11_verdictOf 103 = .ok (.istore 5, 2) := by decide +kernel
theorem dX11_verdictOf_105 : decode cX11_verdictOf 105 = .ok (.iload 5, 2) := by decide +kernel
theorem dX11_verdictOf_107 : decode cX11_verdictOf 107 = .ok (.iconst 3, 1) := by decide +kernel
theorem dX11_verdictOf_108 : decode cX11_verdictOf 108 = .ok (.iload_n 3, 1) := by decide +kernel
theorem dX11_verdictOf_109 : decode cX11_verdictOf 109 = .ok (.imul, 1) := by decide +kernel
theorem dX11_verdictOf_110 : decode cX11_verdictOf 110 = .ok (.aload_n 0, 1) := by decide +kernel
theorem dX11_verdictOf_111 : decode cX11_verdictOf 111 = .ok (.getfield 49, 3) := by decide +kernel
theorem dX11_verdictOf_114 : decode cX11_verdictOf 114 = .ok (.iload_n 3, 1) := by decide +kernel
theorem dX11_verdictOf_115 : decode cX11_verdictOf 115 = .ok (.iaload, 1) := by decide +kernel
theorem dX11_verdictOf_116 : decode cX11_verdictOf 116 = .ok (.iadd, 1) := by decide +kernel
theorem dX11_verdictOf_117 : decode cX11_verdictOf 117 = .ok (.if_icmp .ge 34, 3) := by decide +kernel
theorem dX11_verdictOf_120 : decode cX11_verdictOf 120 = .ok (.aload_n 0, 1) := by decide +kernel
theorem dX11_verdictOf_121 : decode cX11_verdictOf 121 = .ok (.bipush 6, 2) := by decide +kernel
theorem dX11_verdictOf_123 : decode cX11_verdictOf 123 = .ok (.aload_n 0, 1) := by decide +kernel
theorem dX11_verdictOf_124 : decode cX11_verdictOf 124 = .ok (.getfield 55, 3) := by decide +kernel
theorem dX11_verdictOf_127 : decode cX11_verdictOf 127 = .ok (.iload 5, 2) := by decide +kernel
theorem dX11_verdictOf_129 : decode cX11_verdictOf 129 = .ok (.iaload, 1) := by decide +kernel
theorem dX11_verdictOf_130 : decode cX11_verdictOf 130 = .ok (.iadd, 1) := by decide +kernel
theorem dX11_verdictOf_131 : decode cX11_verdictOf 131 = .ok (.bipush 6, 2) := by decide +kernel
theorem dX11_verdictOf_133 : decode cX11_verdictOf 133 = .ok (.aload_n 0, 1) := by decide +kernel
theorem dX11_verdictOf_134 : decode cX11_verdictOf 134 = .ok (.getfield 52, 3) := by decide +kernel
theorem dX11_verdictOf_137 : decode cX11_verdictOf 137 = .ok (.iload 5, 2) := by decide +kernel
theorem dX11_verdictOf_139 : decode cX11_verdictOf 139 = .ok (.iaload, 1) := by decide +kernel
theorem dX11_verdictOf_140 : decode cX11_verdictOf 140 = .ok (.iadd, 1) := by decide +kernel
theorem dX11_verdictOf_141 : decode cX11_verdictOf 141 = .ok (.iconst (-1), 1) := by decide +kernel
theorem dX11_verdictOf_142 : decode cX11_verdictOf 142 = .ok (.invokevirtual 314, 3) := by decide +kernel
theorem dX11_verdictOf_145 : decode cX11_verdictOf 145 = .ok (.iinc 5 1, 3) := by decide +kernel
theorem dX11_verdictOf_148 : decode cX11_verdictOf 148 = .ok (.goto (-43), 3) := by decide +kernel
theorem dX11_verdictOf_151 : decode cX11_verdictOf 151 = .ok (.aload_n 0, 1) := by decide +kernel
theorem dX11_verdictOf_152 : decode cX11_verdictOf 152 = .ok (.invokevirtual 325, 3) := by decide +kernel
theorem dX11_verdictOf_155 : decode cX11_verdictOf 155 = .ok (.ifCond .eq 7, 3) := by decide +kernel
theorem dX11_verdictOf_158 : decode cX11_verdictOf 158 = .ok (.iconst 2, 1) := by decide +kernel
theorem dX11_verdictOf_159 : decode cX11_verdictOf 159 = .ok (.goto 4, 3) := by decide +kernel
theorem dX11_verdictOf_162 : decode cX11_verdictOf 162 = .ok (.iconst 0, 1) := by decide +kernel
theorem dX11_verdictOf_163 : decode cX11_verdictOf 163 = .ok (.ireturn, 1) := by decide +kernel
theorem dX11_framesOf_0 : decode cX11_framesOf 0 = .ok (.iconst 0, 1) := by decide +kernel
theorem dX11_framesOf_1 : decode cX11_framesOf 1 = .ok (.istore_n 3, 1) := by decide +kernel
theorem dX11_framesOf_2 : decode cX11_framesOf 2 = .ok (.iconst 0, 1) := by decide +kernel
theorem dX11_framesOf_3 : decode cX11_framesOf 3 = .ok (.istore 4, 2) := by decide +kernel
theorem dX11_framesOf_5 : decode cX11_framesOf 5 = .ok (.iload 4, 2) := by decide +kernel
theorem dX11_framesOf_7 : decode cX11_framesOf 7 = .ok (.aload_n 0, 1) := by decide +kernel
theorem dX11_framesOf_8 : decode cX11_framesOf 8 = .ok (.getfield 82, 3) := by decide +kernel
theorem dX11_framesOf_11 : decode cX11_framesOf 11 = .ok (.iload_n 1, 1) := by decide +kernel
theorem dX11_framesOf_12 : decode cX11_framesOf 12 = .ok (.iaload, 1) := by decide +kernel
theorem dX11_framesOf_13 : decode cX11_framesOf 13 = .ok (.if_icmp .ge 39, 3) := by decide +kernel
theorem dX11_framesOf_16 : decode cX11_framesOf 16 = .ok (.iload_n 3, 1) := by decide +kernel
theorem dX11_framesOf_17 : decode cX11_framesOf 17 = .ok (.iload_n 2, 1) := by decide +kernel
theorem dX11_framesOf_18 : decode cX11_framesOf 18 = .ok (.aload_n 0, 1) := by decide +kernel
theorem dX11_framesOf_19 : decode cX11_framesOf 19 = .ok (.getfield 85, 3) := by decide +kernel
theorem dX11_framesOf_22 : decode cX11_framesOf 22 = .ok (.bipush 10, 2) := by decide +kernel
theorem dX11_framesOf_24 : decode cX11_framesOf 24 = .ok (.iload_n 1, 1) := by decide +kernel
theorem dX11_framesOf_25 : decode cX11_framesOf 25 = .ok (.imul, 1) := by decide +kernel
theorem dX11_framesOf_26 : decode cX11_framesOf 26 = .ok (.iload 4, 2) := by decide +kernel
theorem dX11_framesOf_28 : decode cX11_framesOf 28 = .ok (.iadd, 1) := by decide +kernel
theorem dX11_framesOf_29 : decode cX11_framesOf 29 = .ok (.iaload, 1) := by decide +kernel
theorem dX11_framesOf_30 : decode cX11_framesOf 30 = .ok (.invokestatic 266, 3) := by decide +kernel
theorem dX11_framesOf_33 : decode cX11_framesOf 33 = .ok (.ifCond .eq 10, 3) := by decide +kernel
theorem dX11_framesOf_36 : decode cX11_framesOf 36 = .ok (.iconst 1, 1) := by decide +kernel
theorem dX11_framesOf_37 : decode cX11_framesOf 37 = .ok (.iload 4, 2) := by decide +kernel
theorem dX11_framesOf_39 : decode cX11_framesOf 39 = .ok (.ishl, 1) := by decide +kernel
theorem dX11_framesOf_40 : decode cX11_framesOf 40 = .ok (.goto 4, 3) := by decide +kernel
theorem dX11_framesOf_43 : decode cX11_framesOf 43 = .ok (.iconst 0, 1) := by decide +kernel
theorem dX11_framesOf_44 : decode cX11_framesOf 44 = .ok (.ior, 1) := by decide +kernel
theorem dX11_framesOf_45 : decode cX11_framesOf 45 = .ok (.istore_n 3, 1) := by decide +kernel
theorem dX11_framesOf_46 : decode cX11_framesOf 46 = .ok (.iinc 4 1, 3) := by decide +kernel
theorem dX11_framesOf_49 : decode cX11_framesOf 49 = .ok (.goto (-44), 3) := by decide +kernel
theorem dX11_framesOf_52 : decode cX11_framesOf 52 = .ok (.iload_n 3, 1) := by decide +kernel
theorem dX11_framesOf_53 : decode cX11_framesOf 53 = .ok (.ireturn, 1) := by decide +kernel
theorem dX11_byAll_0 : decode cX11_byAll 0 = .ok (.aload_n 0, 1) := by decide +kernel
theorem dX11_byAll_1 : decode cX11_byAll 1 = .ok (.iload_n 1, 1) := by decide +kernel
theorem dX11_byAll_2 : decode cX11_byAll 2 = .ok (.aload_n 0, 1) := by decide +kernel
theorem dX11_byAll_3 : decode cX11_byAll 3 = .ok (.iload_n 1, 1) := by decide +kernel
theorem dX11_byAll_4 : decode cX11_byAll 4 = .ok (.invokevirtual 328, 3) := by decide +kernel
theorem dX11_byAll_7 : decode cX11_byAll 7 = .ok (.invokevirtual 331, 3) := by decide +kernel
theorem dX11_byAll_10 : decode cX11_byAll 10 = .ok (.ireturn, 1) := by decide +kernel
theorem dX11_camera_0 : decode cX11_camera 0 = .ok (.aload_n 0, 1) := by decide +kernel
theorem dX11_camera_1 : decode cX11_camera 1 = .ok (.iconst 0, 1) := by decide +kernel
theorem dX11_camera_2 : decode cX11_camera 2 = .ok (.putfield 119, 3) := by decide +kernel
theorem dX11_camera_5 : decode cX11_camera 5 = .ok (.iload_n 1, 1) := by decide +kernel
theorem dX11_camera_6 : decode cX11_camera 6 = .ok (.i2l, 1) := by decide +kernel
theorem dX11_camera_7 : decode cX11_camera 7 = .ok (.lconst 0, 1) := by decide +kernel
theorem dX11_camera_8 : decode cX11_camera 8 = .ok (.aload_n 0, 1) := by decide +kernel
theorem dX11_camera_9 : decode cX11_camera 9 = .ok (.getfield 13, 3) := by decide +kernel
theorem dX11_camera_12 : decode cX11_camera 12 = .ok (.iconst 0, 1) := by decide +kernel
theorem dX11_camera_13 : decode cX11_camera 13 = .ok (.iaload, 1) := by decide +kernel
theorem dX11_camera_14 : decode cX11_camera 14 = .ok (.iconst 1, 1) := by decide +kernel
theorem dX11_camera_15 : decode cX11_camera 15 = .ok (.isub, 1) := by decide +kernel
theorem dX11_camera_16 : decode cX11_camera 16 = .ok (.i2l, 1) := by decide +kernel
theorem dX11_camera_17 : decode cX11_camera 17 = .ok (.invokestatic 156, 3) := by decide +kernel
theorem dX11_camera_20 : decode cX11_camera 20 = .ok (.ifCond .eq 15, 3) := by decide +kernel
theorem dX11_camera_23 : decode cX11_camera 23 = .ok (.iload_n 2, 1) := by decide +kernel
theorem dX11_camera_24 : decode cX11_camera 24 = .ok (.i2l, 1) := by decide +kernel
theorem dX11_camera_25 : decode cX11_camera 25 = .ok (.lconst 0, 1) := by decide +kernel
theorem dX11_camera_26 : decode cX11_camera 26 = .ok (.ldc2_w 334, 3) := by decide +kernel
theorem dX11_camera_29 : decode cX11_camera 29 = .ok (.invokestatic 156, 3) := by decide +kernel
theorem dX11_camera_32 : decode cX11_camera 32 = .ok (.ifCond .ne 5, 3) := by decide +kernel
theorem dX11_camera_35 : decode cX11_camera 35 = .ok (.iconst (-1), 1) := by decide +kernel
theorem dX11_camera_36 : decode cX11_camera 36 = .ok (.ireturn, 1) := by decide +kernel
theorem dX11_camera_37 : decode cX11_camera 37 = .ok (.iload_n 2, 1) := by decide +kernel
theorem dX11_camera_38 : decode cX11_camera 38 = .ok (.iconst 2, 1) := by decide +kernel
theorem dX11_camera_39 : decode cX11_camera 39 = .ok (.if_icmp .ge 23, 3) := by decide +kernel
theorem dX11_camera_42 : decode cX11_camera 42 = .ok (.iload_n 2, 1) := by decide +kernel
theorem dX11_camera_43 : decode cX11_camera 43 = .ok (.ifCond .ne 12, 3) := by decide +kernel
theorem dX11_camera_46 : decode cX11_camera 46 = .ok (.aload_n 0, 1) := by decide +kernel
theorem dX11_camera_47 : decode cX11_camera 47 = .ok (.getfield 28, 3) := by decide +kernel
theorem dX11_camera_50 : decode cX11_camera 50 = .ok (.iload_n 1, 1) := by decide +kernel
theorem dX11_camera_51 : decode cX11_camera 51 = .ok (.iaload, 1) := by decide +kernel
theorem dX11_camera_52 : decode cX11_camera 52 = .ok (.goto 9, 3) := by decide +kernel
theorem dX11_camera_55 : decode cX11_camera 55 = .ok (.aload_n 0, 1) := by decide +kernel
theorem dX11_camera_56 : decode cX11_camera 56 = .ok (.getfield 31, 3) := by decide +kernel
theorem dX11_camera_59 : decode cX11_camera 59 = .ok (.iload_n 1, 1) := by decide +kernel
theorem dX11_camera_60 : decode cX11_camera 60 = .ok (.iaload, 1) := by decide +kernel
theorem dX11_camera_61 : decode cX11_camera 61 = .ok (.ireturn, 1) := by decide +kernel
theorem dX11_camera_62 : decode cX11_camera 62 = .ok (.aload_n 0, 1) := by decide +kernel
theorem dX11_camera_63 : decode cX11_camera 63 = .ok (.invokevirtual 318, 3) := by decide +kernel
theorem dX11_camera_66 : decode cX11_camera 66 = .ok (.aload_n 0, 1) := by decide +kernel
theorem dX11_camera_67 : decode cX11_camera 67 = .ok (.invokevirtual 325, 3) := by decide +kernel
theorem dX11_camera_70 : decode cX11_camera 70 = .ok (.ifCond .ne 6, 3) := by decide +kernel
theorem dX11_camera_73 : decode cX11_camera 73 = .ok (.bipush (-2), 2) := by decide +kernel
theorem dX11_camera_75 : decode cX11_camera 75 = .ok (.ireturn, 1) := by decide +kernel
theorem dX11_camera_76 : decode cX11_camera 76 = .ok (.iload_n 2, 1) := by decide +kernel
theorem dX11_camera_77 : decode cX11_camera 77 = .ok (.iconst 2, 1) := by decide +kernel
theorem dX11_camera_78 : decode cX11_camera 78 = .ok (.if_icmp .ne 15, 3) := by decide +kernel
theorem dX11_camera_81 : decode cX11_camera 81 = .ok (.aload_n 0, 1) := by decide +kernel
theorem dX11_camera_82 : decode cX11_camera 82 = .ok (.getfield 109, 3) := by decide +kernel
theorem dX11_camera_85 : decode cX11_camera 85 = .ok (.iconst 1, 1) := by decide +kernel
theorem dX11_camera_86 : decode cX11_camera 86 = .ok (.iload_n 1, 1) := by decide +kernel
theorem dX11_camera_87 : decode cX11_camera 87 = .ok (.iadd, 1) := by decide +kernel
theorem dX11_camera_88 : decode cX11_camera 88 = .ok (.iaload, 1) := by decide +kernel
theorem dX11_camera_89 : decode cX11_camera 89 = .ok (.ineg, 1) := by decide +kernel
theorem dX11_camera_90 : decode cX11_camera 90 = .ok (.goto 14, 3) := by decide +kernel
theorem dX11_camera_93 : decode cX11_camera 93 = .ok (.aload_n 0, 1) := by decide +kernel
theorem dX11_camera_94 : decode cX11_camera 94 = .ok (.getfield 109, 3) := by decide +kernel
theorem dX11_camera_97 : decode cX11_camera 97 = .ok (.bipush 10, 2) := by decide +kernel
theorem dX11_camera_99 : decode cX11_camera 99 = .ok (.iconst 1, 1) := by decide +kernel
theorem dX11_camera_100 : decode cX11_camera 100 = .ok (.iload_n 1, 1) := by decide +kernel
theorem dX11_camera_101 : decode cX11_camera 101 = .ok (.iadd, 1) := by decide +kernel
theorem dX11_camera_102 : decode cX11_camera 102 = .ok (.imul, 1) := by decide +kernel
theorem dX11_camera_103 : decode cX11_camera 103 = .ok (.iaload, 1) := by decide +kernel
theorem dX11_camera_104 : decode cX11_camera 104 = .ok (.ireturn, 1) := by decide +kernel
theorem dX11_kind_0 : decode cX11_kind 0 = .ok (.aload_n 0, 1) := by decide +kernel
theorem dX11_kind_1 : decode cX11_kind 1 = .ok (.iconst 0, 1) := by decide +kernel
theorem dX11_kind_2 : decode cX11_kind 2 = .ok (.putfield 119, 3) := by decide +kernel
theorem dX11_kind_5 : decode cX11_kind 5 = .ok (.iload_n 1, 1) := by decide +kernel
theorem dX11_kind_6 : decode cX11_kind 6 = .ok (.i2l, 1) := by decide +kernel
theorem dX11_kind_7 : decode cX11_kind 7 = .ok (.lconst 0, 1) := by decide +kernel
theorem dX11_kind_8 : decode cX11_kind 8 = .ok (.aload_n 0, 1) := by decide +kernel
theorem dX11_kind_9 : decode cX11_kind 9 = .ok (.getfield 13, 3) := by decide +kernel
theorem dX11_kind_12 : decode cX11_kind 12 = .ok (.iconst 2, 1) := by decide +kernel
theorem dX11_kind_13 : decode cX11_kind 13 = .ok (.iaload, 1) := by decide +kernel
theorem dX11_kind_14 : decode cX11_kind 14 = .ok (.iconst 1, 1) := by decide +kernel
theorem dX11_kind_15 : decode cX11_kind 15 = .ok (.isub, 1) := by decide +kernel
theorem dX11_kind_16 : decode cX11_kind 16 = .ok (.i2l, 1) := by decide +kernel
theorem dX11_kind_17 : decode cX11_kind 17 = .ok (.invokestatic 156, 3) := by decide +kernel
theorem dX11_kind_20 : decode cX11_kind 20 = .ok (.ifCond .eq 15, 3) := by decide +kernel
theorem dX11_kind_23 : decode cX11_kind 23 = .ok (.iload_n 2, 1) := by decide +kernel
theorem dX11_kind_24 : decode cX11_kind 24 = .ok (.i2l, 1) := by decide +kernel
theorem dX11_kind_25 : decode cX11_kind 25 = .ok (.lconst 0, 1) := by decide +kernel
theorem dX11_kind_26 : decode cX11_kind 26 = .ok (.ldc2_w 334, 3) := by decide +kernel
theorem dX11_kind_29 : decode cX11_kind 29 = .ok (.invokestatic 156, 3) := by decide +kernel
theorem dX11_kind_32 : decode cX11_kind 32 = .ok (.ifCond .ne 5, 3) := by decide +kernel
theorem dX11_kind_35 : decode cX11_kind 35 = .ok (.iconst (-1), 1) := by decide +kernel
theorem dX11_kind_36 : decode cX11_kind 36 = .ok (.ireturn, 1) := by decide +kernel
theorem dX11_kind_37 : decode cX11_kind 37 = .ok (.iload_n 2, 1) := by decide +kernel
theorem dX11_kind_38 : decode cX11_kind 38 = .ok (.ifCond .ne 12, 3) := by decide +kernel
theorem dX11_kind_41 : decode cX11_kind 41 = .ok (.aload_n 0, 1) := by decide +kernel
theorem dX11_kind_42 : decode cX11_kind 42 = .ok (.getfield 40, 3) := by decide +kernel
theorem dX11_kind_45 : decode cX11_kind 45 = .ok (.iload_n 1, 1) := by decide +kernel
theorem dX11_kind_46 : decode cX11_kind 46 = .ok (.iaload, 1) := by decide +kernel
theorem dX11_kind_47 : decode cX11_kind 47 = .ok (.goto 53, 3) := by decide +kernel
theorem dX11_kind_50 : decode cX11_kind 50 = .ok (.iload_n 2, 1) := by decide +kernel
theorem dX11_kind_51 : decode cX11_kind 51 = .ok (.iconst 1, 1) := by decide +kernel
theorem dX11_kind_52 : decode cX11_kind 52 = .ok (.if_icmp .ne 20, 3) := by decide +kernel
theorem dX11_kind_55 : decode cX11_kind 55 = .ok (.aload_n 0, 1) := by decide +kernel
theorem dX11_kind_56 : decode cX11_kind 56 = .ok (.getfield 43, 3) := by decide +kernel
theorem dX11_kind_59 : decode cX11_kind 59 = .ok (.iload_n 1, 1) := by decide +kernel
theorem dX11_kind_60 : decode cX11_kind 60 = .ok (.baload, 1) := by decide +kernel
theorem dX11_kind_61 : decode cX11_kind 61 = .ok (.ifCond .eq 7, 3) := by decide +kernel
theorem dX11_kind_64 : decode cX11_kind 64 = .ok (.iconst 1, 1) := by decide +kernel
theorem dX11_kind_65 : decode cX11_kind 65 = .ok (.goto 35, 3) := by decide +kernel
theorem dX11_kind_68 : decode cX11_kind 68 = .ok (.iconst 0, 1) := by decide +kernel
theorem dX11_kind_69 : decode cX11_kind 69 = .ok (.goto 31, 3) := by decide +kernel
theorem dX11_kind_72 : decode cX11_kind 72 = .ok (.iload_n 2, 1) := by decide +kernel
theorem dX11_kind_73 : decode cX11_kind 73 = .ok (.iconst 2, 1) := by decide +kernel
theorem dX11_kind_74 : decode cX11_kind 74 = .ok (.if_icmp .ne 20, 3) := by decide +kernel
theorem dX11_kind_77 : decode cX11_kind 77 = .ok (.aload_n 0, 1) := by decide +kernel
theorem dX11_kind_78 : decode cX11_kind 78 = .ok (.getfield 46, 3) := by decide +kernel
theorem dX11_kind_81 : decode cX11_kind 81 = .ok (.iload_n 1, 1) := by decide +kernel
theorem dX11_kind_82 : decode cX11_kind 82 = .ok (.baload, 1) := by decide +kernel
theorem dX11_kind_83 : decode cX11_kind 83 = .ok (.ifCond .eq 7, 3) := by decide +kernel
theorem dX11_kind_86 : decode cX11_kind 86 = .ok (.iconst 1, 1) := by decide +kernel
theorem dX11_kind_87 : decode cX11_kind 87 = .ok (.goto 13, 3) := by decide +kernel
theorem dX11_kind_90 : decode cX11_kind 90 = .ok (.iconst 0, 1) := by decide +kernel
theorem dX11_kind_91 : decode cX11_kind 91 = .ok (.goto 9, 3) := by decide +kernel
theorem dX11_kind_94 : decode cX11_kind 94 = .ok (.aload_n 0, 1) := by decide +kernel
theorem dX11_kind_95 : decode cX11_kind 95 = .ok (.getfield 49, 3) := by decide +kernel
theorem dX11_kind_98 : decode cX11_kind 98 = .ok (.iload_n 1, 1) := by decide +kernel
theorem dX11_kind_99 : decode cX11_kind 99 = .ok (.iaload, 1) := by decide +kernel
theorem dX11_kind_100 : decode cX11_kind 100 = .ok (.ireturn, 1) := by decide +kernel
theorem dX11_pointsNow_0 : decode cX11_pointsNow 0 = .ok (.iconst 0, 1) := by decide +kernel
theorem dX11_pointsNow_1 : decode cX11_pointsNow 1 = .ok (.istore_n 2, 1) := by decide +kernel
theorem dX11_pointsNow_2 : decode cX11_pointsNow 2 = .ok (.iconst 0, 1) := by decide +kernel
theorem dX11_pointsNow_3 : decode cX11_pointsNow 3 = .ok (.istore_n 3, 1) := by decide +kernel
theorem dX11_pointsNow_4 : decode cX11_pointsNow 4 = .ok (.iload_n 3, 1) := by decide +kernel
theorem dX11_pointsNow_5 : decode cX11_pointsNow 5 = .ok (.aload_n 0, 1) := by decide +kernel
theorem dX11_pointsNow_6 : decode cX11_pointsNow 6 = .ok (.getfield 97, 3) := by decide +kernel
theorem dX11_pointsNow_9 : decode cX11_pointsNow 9 = .ok (.iconst 0, 1) := by decide +kernel
theorem dX11_pointsNow_10 : decode cX11_pointsNow 10 = .ok (.iaload, 1) := by decide +kernel
theorem dX11_pointsNow_11 : decode cX11_pointsNow 11 = .ok (.if_icmp .ge 44, 3) := by decide +kernel
theorem dX11_pointsNow_14 : decode cX11_pointsNow 14 = .ok (.iload_n 2, 1) := by decide +kernel
theorem dX11_pointsNow_15 : decode cX11_pointsNow 15 = .ok (.aload_n 0, 1) := by decide +kernel
theorem dX11_pointsNow_16 : decode cX11_pointsNow 16 = .ok (.getfield 73, 3) := by decide +kernel
theorem dX11_pointsNow_19 : decode cX11_pointsNow 19 = .ok (.iload_n 3, 1) := by decide +kernel
theorem dX11_pointsNow_20 : decode cX11_pointsNow 20 = .ok (.iaload, 1) := by decide +kernel
theorem dX11_pointsNow_21 : decode cX11_pointsNow 21 = .ok (.iload_n 1, 1) := by decide +kernel
theorem dX11_pointsNow_22 : decode cX11_pointsNow 22 = .ok (.if_icmp .ne 24, 3) := by decide +kernel
theorem dX11_pointsNow_25 : decode cX11_pointsNow 25 = .ok (.aload_n 0, 1) := by decide +kernel
theorem dX11_pointsNow_26 : decode cX11_pointsNow 26 = .ok (.getfield 97, 3) := by decide +kernel
theorem dX11_pointsNow_29 : decode cX11_pointsNow 29 = .ok (.iconst 1, 1) := by decide +kernel
theorem dX11_pointsNow_30 : decode cX11_pointsNow 30 = .ok (.iload_n 3, 1) := by decide +kernel
theorem dX11_pointsNow_31 : decode cX11_pointsNow 31 = .ok (.iadd, 1) := by decide +kernel
theorem dX11_pointsNow_32 : decode cX11_pointsNow 32 = .ok (.iaload, 1) := by decide +kernel
theorem dX11_pointsNow_33 : decode cX11_pointsNow 33 = .ok (.iconst 1, 1) := by decide +kernel
theorem dX11_pointsNow_34 : decode cX11_pointsNow 34 = .ok (.if_icmp .ne 12, 3) := by decide +kernel
theorem dX11_pointsNow_37 : decode cX11_pointsNow 37 = .ok (.aload_n 0, 1) := by decide +kernel
theorem dX11_pointsNow_38 : decode cX11_pointsNow 38 = .ok (.getfield 76, 3) := by decide +kernel
theorem dX11_pointsNow_41 : decode cX11_pointsNow 41 = .ok (.iload_n 3, 1) := by decide +kernel
theorem dX11_pointsNow_42 : decode cX11_pointsNow 42 = .ok (.iaload, 1) := by decide +kernel
theorem dX11_pointsNow_43 : decode cX11_pointsNow 43 = .ok (.goto 4, 3) := by decide +kernel
theorem dX11_pointsNow_46 : decode cX11_pointsNow 46 = .ok (.iconst 0, 1) := by decide +kernel
theorem dX11_pointsNow_47 : decode cX11_pointsNow 47 = .ok (.iadd, 1) := by decide +kernel
theorem dX11_pointsNow_48 : decode cX11_pointsNow 48 = .ok (.istore_n 2, 1) := by decide +kernel
theorem dX11_pointsNow_49 : decode cX11_pointsNow 49 = .ok (.iinc 3 1, 3) := by decide +kernel
theorem dX11_pointsNow_52 : decode cX11_pointsNow 52 = .ok (.goto (-48), 3) := by decide +kernel
theorem dX11_pointsNow_55 : decode cX11_pointsNow 55 = .ok (.iload_n 2, 1) := by decide +kernel
theorem dX11_pointsNow_56 : decode cX11_pointsNow 56 = .ok (.ireturn, 1) := by decide +kernel
theorem dX11_side_0 : decode cX11_side 0 = .ok (.aload_n 0, 1) := by decide +kernel
theorem dX11_side_1 : decode cX11_side 1 = .ok (.iconst 0, 1) := by decide +kernel
theorem dX11_side_2 : decode cX11_side 2 = .ok (.putfield 119, 3) := by decide +kernel
theorem dX11_side_5 : decode cX11_side 5 = .ok (.aload_n 0, 1) := by decide +kernel
theorem dX11_side_6 : decode cX11_side 6 = .ok (.iload_n 1, 1) := by decide +kernel
theorem dX11_side_7 : decode cX11_side 7 = .ok (.invokevirtual 336, 3) := by decide +kernel
theorem dX11_side_10 : decode cX11_side 10 = .ok (.ifCond .eq 15, 3) := by decide +kernel
theorem dX11_side_13 : decode cX11_side 13 = .ok (.iload_n 2, 1) := by decide +kernel
theorem dX11_side_14 : decode cX11_side 14 = .ok (.i2l, 1) := by decide +kernel
theorem dX11_side_15 : decode cX11_side 15 = .ok (.lconst 0, 1) := by decide +kernel
theorem dX11_side_16 : decode cX11_side 16 = .ok (.ldc2_w 334, 3) := by decide +kernel
theorem dX11_side_19 : decode cX11_side 19 = .ok (.invokestatic 156, 3) := by decide +kernel
theorem dX11_side_22 : decode cX11_side 22 = .ok (.ifCond .ne 5, 3) := by decide +kernel
theorem dX11_side_25 : decode cX11_side 25 = .ok (.iconst (-1), 1) := by decide +kernel
theorem dX11_side_26 : decode cX11_side 26 = .ok (.ireturn, 1) := by decide +kernel
theorem dX11_side_27 : decode cX11_side 27 = .ok (.iload_n 2, 1) := by decide +kernel
theorem dX11_side_28 : decode cX11_side 28 = .ok (.ifCond .ne 12, 3) := by decide +kernel
theorem dX11_side_31 : decode cX11_side 31 = .ok (.aload_n 0, 1) := by decide +kernel
theorem dX11_side_32 : decode cX11_side 32 = .ok (.getfield 37, 3) := by decide +kernel
theorem dX11_side_35 : decode cX11_side 35 = .ok (.iload_n 1, 1) := by decide +kernel
theorem dX11_side_36 : decode cX11_side 36 = .ok (.iaload, 1) := by decide +kernel
theorem dX11_side_37 : decode cX11_side 37 = .ok (.goto 42, 3) := by decide +kernel
theorem dX11_side_40 : decode cX11_side 40 = .ok (.iload_n 2, 1) := by decide +kernel
theorem dX11_side_41 : decode cX11_side 41 = .ok (.iconst 1, 1) := by decide +kernel
theorem dX11_side_42 : decode cX11_side 42 = .ok (.if_icmp .ne 15, 3) := by decide +kernel
theorem dX11_side_45 : decode cX11_side 45 = .ok (.aload_n 0, 1) := by decide +kernel
theorem dX11_side_46 : decode cX11_side 46 = .ok (.getfield 97, 3) := by decide +kernel
theorem dX11_side_49 : decode cX11_side 49 = .ok (.bipush 33, 2) := by decide +kernel
theorem dX11_side_51 : decode cX11_side 51 = .ok (.iload_n 1, 1) := by decide +kernel
theorem dX11_side_52 : decode cX11_side 52 = .ok (.iadd, 1) := by decide +kernel
theorem dX11_side_53 : decode cX11_side 53 = .ok (.iaload, 1) := by decide +kernel
theorem dX11_side_54 : decode cX11_side 54 = .ok (.goto 25, 3) := by decide +kernel
theorem dX11_side_57 : decode cX11_side 57 = .ok (.iload_n 2, 1) := by decide +kernel
theorem dX11_side_58 : decode cX11_side 58 = .ok (.iconst 2, 1) := by decide +kernel
theorem dX11_side_59 : decode cX11_side 59 = .ok (.if_icmp .ne 15, 3) := by decide +kernel
theorem dX11_side_62 : decode cX11_side 62 = .ok (.aload_n 0, 1) := by decide +kernel
theorem dX11_side_63 : decode cX11_side 63 = .ok (.getfield 97, 3) := by decide +kernel
theorem dX11_side_66 : decode cX11_side 66 = .ok (.bipush 37, 2) := by decide +kernel
theorem dX11_side_68 : decode cX11_side 68 = .ok (.iload_n 1, 1) := by decide +kernel
theorem dX11_side_69 : decode cX11_side 69 = .ok (.iadd, 1) := by decide +kernel
theorem dX11_side_70 : decode cX11_side 70 = .ok (.iaload, 1) := by decide +kernel
theorem dX11_side_71 : decode cX11_side 71 = .ok (.goto 8, 3) := by decide +kernel
theorem dX11_side_74 : decode cX11_side 74 = .ok (.aload_n 0, 1) := by decide +kernel
theorem dX11_side_75 : decode cX11_side 75 = .ok (.iload_n 1, 1) := by decide +kernel
theorem dX11_side_76 : decode cX11_side 76 = .ok (.invokevirtual 340, 3) := by decide +kernel
theorem dX11_side_79 : decode cX11_side 79 = .ok (.ireturn, 1) := by decide +kernel
theorem dX11_play_0 : decode cX11_play 0 = .ok (.aload_n 0, 1) := by decide +kernel
theorem dX11_play_1 : decode cX11_play 1 = .ok (.iconst 0, 1) := by decide +kernel
theorem dX11_play_2 : decode cX11_play 2 = .ok (.putfield 119, 3) := by decide +kernel
theorem dX11_play_5 : decode cX11_play 5 = .ok (.aload_n 0, 1) := by decide +kernel
theorem dX11_play_6 : decode cX11_play 6 = .ok (.iload_n 1, 1) := by decide +kernel
theorem dX11_play_7 : decode cX11_play 7 = .ok (.invokevirtual 343, 3) := by decide +kernel
theorem dX11_play_10 : decode cX11_play 10 = .ok (.ifCond .ne 5, 3) := by decide +kernel
theorem dX11_play_13 : decode cX11_play 13 = .ok (.iconst (-1), 1) := by decide +kernel
theorem dX11_play_14 : decode cX11_play 14 = .ok (.ireturn, 1) := by decide +kernel
theorem dX11_play_15 : decode cX11_play 15 = .ok (.iload_n 2, 1) := by decide +kernel
theorem dX11_play_16 : decode cX11_play 16 = .ok (.tableswitch 138 0 8 #[52, 59, 66, 73, 80, 87, 94, 118, 128], 52) := by decide +kernel
theorem dX11_play_68 : decode cX11_play 68 = .ok (.aload_n 0, 1) := by decide +kernel
theorem dX11_play_69 : decode cX11_play 69 = .ok (.getfield 67, 3) := by decide +kernel
theorem dX11_play_72 : decode cX11_play 72 = .ok (.iload_n 1, 1) := by decide +kernel
theorem dX11_play_73 : decode cX11_play 73 = .ok (.iaload, 1) := by decide +kernel
theorem dX11_play_74 : decode cX11_play 74 = .ok (.ireturn, 1) := by decide +kernel
theorem dX11_play_75 : decode cX11_play 75 = .ok (.aload_n 0, 1) := by decide +kernel
theorem dX11_play_76 : decode cX11_play 76 = .ok (.getfield 70, 3) := by decide +kernel
theorem dX11_play_79 : decode cX11_play 79 = .ok (.iload_n 1, 1) := by decide +kernel
theorem dX11_play_80 : decode cX11_play 80 = .ok (.iaload, 1) := by decide +kernel
theorem dX11_play_81 : decode cX11_play 81 = .ok (.ireturn, 1) := by decide +kernel
theorem dX11_play_82 : decode cX11_play 82 = .ok (.aload_n 0, 1) := by decide +kernel
theorem dX11_play_83 : decode cX11_play 83 = .ok (.getfield 73, 3) := by decide +kernel
theorem dX11_play_86 : decode cX11_play 86 = .ok (.iload_n 1, 1) := by decide +kernel
theorem dX11_play_87 : decode cX11_play 87 = .ok (.iaload, 1) := by decide +kernel
theorem dX11_play_88 : decode cX11_play 88 = .ok (.ireturn, 1) := by decide +kernel
theorem dX11_play_89 : decode cX11_play 89 = .ok (.aload_n 0, 1) := by decide +kernel
theorem dX11_play_90 : decode cX11_play 90 = .ok (.getfield 76, 3) := by decide +kernel
theorem dX11_play_93 : decode cX11_play 93 = .ok (.iload_n 1, 1) := by decide +kernel
theorem dX11_play_94 : decode cX11_play 94 = .ok (.iaload, 1) := by decide +kernel
theorem dX11_play_95 : decode cX11_play 95 = .ok (.ireturn, 1) := by decide +kernel
theorem dX11_play_96 : decode cX11_play 96 = .ok (.aload_n 0, 1) := by decide +kernel
theorem dX11_play_97 : decode cX11_play 97 = .ok (.getfield 79, 3) := by decide +kernel
theorem dX11_play_100 : decode cX11_play 100 = .ok (.iload_n 1, 1) := by decide +kernel
theorem dX11_play_101 : decode cX11_play 101 = .ok (.iaload, 1) := by decide +kernel
theorem dX11_play_102 : decode cX11_play 102 = .ok (.ireturn, 1) := by decide +kernel
theorem dX11_play_103 : decode cX11_play 103 = .ok (.aload_n 0, 1) := by decide +kernel
theorem dX11_play_104 : decode cX11_play 104 = .ok (.getfield 82, 3) := by decide +kernel
theorem dX11_play_107 : decode cX11_play 107 = .ok (.iload_n 1, 1) := by decide +kernel
theorem dX11_play_108 : decode cX11_play 108 = .ok (.iaload, 1) := by decide +kernel
theorem dX11_play_109 : decode cX11_play 109 = .ok (.ireturn, 1) := by decide +kernel
theorem dX11_play_110 : decode cX11_play 110 = .ok (.iload_n 1, 1) := by decide +kernel
theorem dX11_play_111 : decode cX11_play 111 = .ok (.aload_n 0, 1) := by decide +kernel
theorem dX11_play_112 : decode cX11_play 112 = .ok (.getfield 97, 3) := by decide +kernel
theorem dX11_play_115 : decode cX11_play 115 = .ok (.iconst 0, 1) := by decide +kernel
theorem dX11_play_116 : decode cX11_play 116 = .ok (.iaload, 1) := by decide +kernel
theorem dX11_play_117 : decode cX11_play 117 = .ok (.if_icmp .ge 14, 3) := by decide +kernel
theorem dX11_play_120 : decode cX11_play 120 = .ok (.aload_n 0, 1) := by decide +kernel
theorem dX11_play_121 : decode cX11_play 121 = .ok (.getfield 97, 3) := by decide +kernel
theorem dX11_play_124 : decode cX11_play 124 = .ok (.iconst 1, 1) := by decide +kernel
theorem dX11_play_125 : decode cX11_play 125 = .ok (.iload_n 1, 1) := by decide +kernel
theorem dX11_play_126 : decode cX11_play 126 = .ok (.iadd, 1) := by decide +kernel
theorem dX11_play_127 : decode cX11_play 127 = .ok (.iaload, 1) := by decide +kernel
theorem dX11_play_128 : decode cX11_play 128 = .ok (.goto 5, 3) := by decide +kernel
theorem dX11_play_131 : decode cX11_play 131 = .ok (.bipush (-2), 2) := by decide +kernel
theorem dX11_play_133 : decode cX11_play 133 = .ok (.ireturn, 1) := by decide +kernel
theorem dX11_play_134 : decode cX11_play 134 = .ok (.aload_n 0, 1) := by decide +kernel
theorem dX11_play_135 : decode cX11_play 135 = .ok (.getfield 97, 3) := by decide +kernel
theorem dX11_play_138 : decode cX11_play 138 = .ok (.bipush 9, 2) := by decide +kernel
theorem dX11_play_140 : decode cX11_play 140 = .ok (.iload_n 1, 1) := by decide +kernel
theorem dX11_play_141 : decode cX11_play 141 = .ok (.iadd, 1) := by decide +kernel
theorem dX11_play_142 : decode cX11_play 142 = .ok (.iaload, 1) := by decide +kernel
theorem dX11_play_143 : decode cX11_play 143 = .ok (.ireturn, 1) := by decide +kernel
theorem dX11_play_144 : decode cX11_play 144 = .ok (.aload_n 0, 1) := by decide +kernel
theorem dX11_play_145 : decode cX11_play 145 = .ok (.getfield 97, 3) := by decide +kernel
theorem dX11_play_148 : decode cX11_play 148 = .ok (.bipush 17, 2) := by decide +kernel
theorem dX11_play_150 : decode cX11_play 150 = .ok (.iload_n 1, 1) := by decide +kernel
theorem dX11_play_151 : decode cX11_play 151 = .ok (.iadd, 1) := by decide +kernel
theorem dX11_play_152 : decode cX11_play 152 = .ok (.iaload, 1) := by decide +kernel
theorem dX11_play_153 : decode cX11_play 153 = .ok (.ireturn, 1) := by decide +kernel
theorem dX11_play_154 : decode cX11_play 154 = .ok (.iconst (-1), 1) := by decide +kernel
theorem dX11_play_155 : decode cX11_play 155 = .ok (.ireturn, 1) := by decide +kernel
theorem dX11_frame_0 : decode cX11_frame 0 = .ok (.aload_n 0, 1) := by decide +kernel
theorem dX11_frame_1 : decode cX11_frame 1 = .ok (.aload_n 0, 1) := by decide +kernel
theorem dX11_frame_2 : decode cX11_frame 2 = .ok (.iload_n 1, 1) := by decide +kernel
theorem dX11_frame_3 : decode cX11_frame 3 = .ok (.invokevirtual 343, 3) := by decide +kernel
theorem dX11_frame_6 : decode cX11_frame 6 = .ok (.ifCond .eq 37, 3) := by decide +kernel
theorem dX11_frame_9 : decode cX11_frame 9 = .ok (.iload_n 2, 1) := by decide +kernel
theorem dX11_frame_10 : decode cX11_frame 10 = .ok (.i2l, 1) := by decide +kernel
theorem dX11_frame_11 : decode cX11_frame 11 = .ok (.lconst 0, 1) := by decide +kernel
theorem dX11_frame_12 : decode cX11_frame 12 = .ok (.aload_n 0, 1) := by decide +kernel
theorem dX11_frame_13 : decode cX11_frame 13 = .ok (.getfield 82, 3) := by decide +kernel
theorem dX11_frame_16 : decode cX11_frame 16 = .ok (.iload_n 1, 1) := by decide +kernel
theorem dX11_frame_17 : decode cX11_frame 17 = .ok (.iaload, 1) := by decide +kernel
theorem dX11_frame_18 : decode cX11_frame 18 = .ok (.iconst 1, 1) := by decide +kernel
theorem dX11_frame_19 : decode cX11_frame 19 = .ok (.isub, 1) := by decide +kernel
theorem dX11_frame_20 : decode cX11_frame 20 = .ok (.i2l, 1) := by decide +kernel
theorem dX11_frame_21 : decode cX11_frame 21 = .ok (.invokestatic 156, 3) := by decide +kernel
theorem dX11_frame_24 : decode cX11_frame 24 = .ok (.ifCond .eq 19, 3) := by decide +kernel
theorem dX11_frame_27 : decode cX11_frame 27 = .ok (.iload_n 3, 1) := by decide +kernel
theorem dX11_frame_28 : decode cX11_frame 28 = .ok (.i2l, 1) := by decide +kernel
theorem dX11_frame_29 : decode cX11_frame 29 = .ok (.lconst 0, 1) := by decide +kernel
theorem dX11_frame_30 : decode cX11_frame 30 = .ok (.ldc2_w 334, 3) := by decide +kernel
theorem dX11_frame_33 : decode cX11_frame 33 = .ok (.invokestatic 156, 3) := by decide +kernel
theorem dX11_frame_36 : decode cX11_frame 36 = .ok (.ifCond .eq 7, 3) := by decide +kernel
theorem dX11_frame_39 : decode cX11_frame 39 = .ok (.iconst 0, 1) := by decide +kernel
theorem dX11_frame_40 : decode cX11_frame 40 = .ok (.goto 4, 3) := by decide +kernel
theorem dX11_frame_43 : decode cX11_frame 43 = .ok (.iconst 1, 1) := by decide +kernel
theorem dX11_frame_44 : decode cX11_frame 44 = .ok (.putfield 119, 3) := by decide +kernel
theorem dX11_frame_47 : decode cX11_frame 47 = .ok (.aload_n 0, 1) := by decide +kernel
theorem dX11_frame_48 : decode cX11_frame 48 = .ok (.getfield 119, 3) := by decide +kernel
theorem dX11_frame_51 : decode cX11_frame 51 = .ok (.iconst 1, 1) := by decide +kernel
theorem dX11_frame_52 : decode cX11_frame 52 = .ok (.if_icmp .ne 5, 3) := by decide +kernel
theorem dX11_frame_55 : decode cX11_frame 55 = .ok (.iconst 0, 1) := by decide +kernel
theorem dX11_frame_56 : decode cX11_frame 56 = .ok (.ireturn, 1) := by decide +kernel
theorem dX11_frame_57 : decode cX11_frame 57 = .ok (.bipush 10, 2) := by decide +kernel
theorem dX11_frame_59 : decode cX11_frame 59 = .ok (.iload_n 1, 1) := by decide +kernel
theorem dX11_frame_60 : decode cX11_frame 60 = .ok (.imul, 1) := by decide +kernel
theorem dX11_frame_61 : decode cX11_frame 61 = .ok (.iload_n 2, 1) := by decide +kernel
theorem dX11_frame_62 : decode cX11_frame 62 = .ok (.iadd, 1) := by decide +kernel
theorem dX11_frame_63 : decode cX11_frame 63 = .ok (.istore 4, 2) := by decide +kernel
theorem dX11_frame_65 : decode cX11_frame 65 = .ok (.iload_n 3, 1) := by decide +kernel
theorem dX11_frame_66 : decode cX11_frame 66 = .ok (.ifCond .ne 13, 3) := by decide +kernel
theorem dX11_frame_69 : decode cX11_frame 69 = .ok (.aload_n 0, 1) := by decide +kernel
theorem dX11_frame_70 : decode cX11_frame 70 = .ok (.getfield 85, 3) := by decide +kernel
theorem dX11_frame_73 : decode cX11_frame 73 = .ok (.iload 4, 2) := by decide +kernel
theorem dX11_frame_75 : decode cX11_frame 75 = .ok (.iaload, 1) := by decide +kernel
theorem dX11_frame_76 : decode cX11_frame 76 = .ok (.goto 40, 3) := by decide +kernel
theorem dX11_frame_79 : decode cX11_frame 79 = .ok (.iload_n 3, 1) := by decide +kernel
theorem dX11_frame_80 : decode cX11_frame 80 = .ok (.iconst 1, 1) := by decide +kernel
theorem dX11_frame_81 : decode cX11_frame 81 = .ok (.if_icmp .ne 13, 3) := by decide +kernel
theorem dX11_frame_84 : decode cX11_frame 84 = .ok (.aload_n 0, 1) := by decide +kernel
theorem dX11_frame_85 : decode cX11_frame 85 = .ok (.getfield 88, 3) := by decide +kernel
theorem dX11_frame_88 : decode cX11_frame 88 = .ok (.iload 4, 2) := by decide +kernel
theorem dX11_frame_90 : decode cX11_frame 90 = .ok (.iaload, 1) := by decide +kernel
theorem dX11_frame_91 : decode cX11_frame 91 = .ok (.goto 25, 3) := by decide +kernel
theorem dX11_frame_94 : decode cX11_frame 94 = .ok (.iload_n 3, 1) := by decide +kernel
theorem dX11_frame_95 : decode cX11_frame 95 = .ok (.iconst 2, 1) := by decide +kernel
theorem dX11_frame_96 : decode cX11_frame 96 = .ok (.if_icmp .ne 13, 3) := by decide +kernel
theorem dX11_frame_99 : decode cX11_frame 99 = .ok (.aload_n 0, 1) := by decide +kernel
theorem dX11_frame_100 : decode cX11_frame 100 = .ok (.getfield 91, 3) := by decide +kernel
theorem dX11_frame_103 : decode cX11_frame 103 = .ok (.iload 4, 2) := by decide +kernel
theorem dX11_frame_105 : decode cX11_frame 105 = .ok (.iaload, 1) := by decide +kernel
theorem dX11_frame_106 : decode cX11_frame 106 = .ok (.goto 10, 3) := by decide +kernel
theorem dX11_frame_109 : decode cX11_frame 109 = .ok (.aload_n 0, 1) := by decide +kernel
theorem dX11_frame_110 : decode cX11_frame 110 = .ok (.getfield 94, 3) := by decide +kernel
theorem dX11_frame_113 : decode cX11_frame 113 = .ok (.iload 4, 2) := by decide +kernel
theorem dX11_frame_115 : decode cX11_frame 115 = .ok (.iaload, 1) := by decide +kernel
theorem dX11_frame_116 : decode cX11_frame 116 = .ok (.ireturn, 1) := by decide +kernel
theorem dX11_verdict_0 : decode cX11_verdict 0 = .ok (.aload_n 0, 1) := by decide +kernel
theorem dX11_verdict_1 : decode cX11_verdict 1 = .ok (.iconst 0, 1) := by decide +kernel
theorem dX11_verdict_2 : decode cX11_verdict 2 = .ok (.putfield 119, 3) := by decide +kernel
theorem dX11_verdict_5 : decode cX11_verdict 5 = .ok (.aload_n 0, 1) := by decide +kernel
theorem dX11_verdict_6 : decode cX11_verdict 6 = .ok (.iload_n 1, 1) := by decide +kernel
theorem dX11_verdict_7 : decode cX11_verdict 7 = .ok (.invokevirtual 343, 3) := by decide +kernel
theorem dX11_verdict_10 : decode cX11_verdict 10 = .ok (.ifCond .eq 32, 3) := by decide +kernel
theorem dX11_verdict_13 : decode cX11_verdict 13 = .ok (.iload_n 2, 1) := by decide +kernel
theorem dX11_verdict_14 : decode cX11_verdict 14 = .ok (.i2l, 1) := by decide +kernel
theorem dX11_verdict_15 : decode cX11_verdict 15 = .ok (.lconst 0, 1) := by decide +kernel
theorem dX11_verdict_16 : decode cX11_verdict 16 = .ok (.aload_n 0, 1) := by decide +kernel
theorem dX11_verdict_17 : decode cX11_verdict 17 = .ok (.getfield 82, 3) := by decide +kernel
theorem dX11_verdict_20 : decode cX11_verdict 20 = .ok (.iload_n 1, 1) := by decide +kernel
theorem dX11_verdict_21 : decode cX11_verdict 21 = .ok (.iaload, 1) := by decide +kernel
theorem dX11_verdict_22 : decode cX11_verdict 22 = .ok (.i2l, 1) := by decide +kernel
theorem dX11_verdict_23 : decode cX11_verdict 23 = .ok (.invokestatic 156, 3) := by decide +kernel
theorem dX11_verdict_26 : decode cX11_verdict 26 = .ok (.ifCond .eq 16, 3) := by decide +kernel
theorem dX11_verdict_29 : decode cX11_verdict 29 = .ok (.aload_n 0, 1) := by decide +kernel
theorem dX11_verdict_30 : decode cX11_verdict 30 = .ok (.iload_n 1, 1) := by decide +kernel
theorem dX11_verdict_31 : decode cX11_verdict 31 = .ok (.iconst 1, 1) := by decide +kernel
theorem dX11_verdict_32 : decode cX11_verdict 32 = .ok (.iload_n 2, 1) := by decide +kernel
theorem dX11_verdict_33 : decode cX11_verdict 33 = .ok (.ishl, 1) := by decide +kernel
theorem dX11_verdict_34 : decode cX11_verdict 34 = .ok (.iconst 1, 1) := by decide +kernel
theorem dX11_verdict_35 : decode cX11_verdict 35 = .ok (.isub, 1) := by decide +kernel
theorem dX11_verdict_36 : decode cX11_verdict 36 = .ok (.invokevirtual 331, 3) := by decide +kernel
theorem dX11_verdict_39 : decode cX11_verdict 39 = .ok (.goto 4, 3) := by decide +kernel
theorem dX11_verdict_42 : decode cX11_verdict 42 = .ok (.iconst (-1), 1) := by decide +kernel
theorem dX11_verdict_43 : decode cX11_verdict 43 = .ok (.ireturn, 1) := by decide +kernel
theorem dX11_by_0 : decode cX11_by 0 = .ok (.aload_n 0, 1) := by decide +kernel
theorem dX11_by_1 : decode cX11_by 1 = .ok (.iconst 0, 1) := by decide +kernel
theorem dX11_by_2 : decode cX11_by 2 = .ok (.putfield 119, 3) := by decide +kernel
theorem dX11_by_5 : decode cX11_by 5 = .ok (.aload_n 0, 1) := by decide +kernel
theorem dX11_by_6 : decode cX11_by 6 = .ok (.iload_n 1, 1) := by decide +kernel
theorem dX11_by_7 : decode cX11_by 7 = .ok (.invokevirtual 343, 3) := by decide +kernel
theorem dX11_by_10 : decode cX11_by 10 = .ok (.ifCond .eq 37, 3) := by decide +kernel
theorem dX11_by_13 : decode cX11_by 13 = .ok (.iload_n 2, 1) := by decide +kernel
theorem dX11_by_14 : decode cX11_by 14 = .ok (.i2l, 1) := by decide +kernel
theorem dX11_by_15 : decode cX11_by 15 = .ok (.lconst 0, 1) := by decide +kernel
theorem dX11_by_16 : decode cX11_by 16 = .ok (.iconst 1, 1) := by decide +kernel
theorem dX11_by_17 : decode cX11_by 17 = .ok (.aload_n 0, 1) := by decide +kernel
theorem dX11_by_18 : decode cX11_by 18 = .ok (.getfield 13, 3) := by decide +kernel
theorem dX11_by_21 : decode cX11_by 21 = .ok (.iconst 0, 1) := by decide +kernel
theorem dX11_by_22 : decode cX11_by 22 = .ok (.iaload, 1) := by decide +kernel
theorem dX11_by_23 : decode cX11_by 23 = .ok (.ishl, 1) := by decide +kernel
theorem dX11_by_24 : decode cX11_by 24 = .ok (.iconst 1, 1) := by decide +kernel
theorem dX11_by_25 : decode cX11_by 25 = .ok (.isub, 1) := by decide +kernel
theorem dX11_by_26 : decode cX11_by 26 = .ok (.i2l, 1) := by decide +kernel
theorem dX11_by_27 : decode cX11_by 27 = .ok (.invokestatic 156, 3) := by decide +kernel
theorem dX11_by_30 : decode cX11_by 30 = .ok (.ifCond .eq 17, 3) := by decide +kernel
theorem dX11_by_33 : decode cX11_by 33 = .ok (.aload_n 0, 1) := by decide +kernel
theorem dX11_by_34 : decode cX11_by 34 = .ok (.iload_n 1, 1) := by decide +kernel
theorem dX11_by_35 : decode cX11_by 35 = .ok (.aload_n 0, 1) := by decide +kernel
theorem dX11_by_36 : decode cX11_by 36 = .ok (.iload_n 1, 1) := by decide +kernel
theorem dX11_by_37 : decode cX11_by 37 = .ok (.iload_n 2, 1) := by decide +kernel
theorem dX11_by_38 : decode cX11_by 38 = .ok (.invokevirtual 346, 3) := by decide +kernel
theorem dX11_by_41 : decode cX11_by 41 = .ok (.invokevirtual 331, 3) := by decide +kernel
theorem dX11_by_44 : decode cX11_by 44 = .ok (.goto 4, 3) := by decide +kernel
theorem dX11_by_47 : decode cX11_by 47 = .ok (.iconst (-1), 1) := by decide +kernel
theorem dX11_by_48 : decode cX11_by 48 = .ok (.ireturn, 1) := by decide +kernel
theorem dX11_gap_0 : decode cX11_gap 0 = .ok (.aload_n 0, 1) := by decide +kernel
theorem dX11_gap_1 : decode cX11_gap 1 = .ok (.iconst 0, 1) := by decide +kernel
theorem dX11_gap_2 : decode cX11_gap 2 = .ok (.putfield 119, 3) := by decide +kernel
theorem dX11_gap_5 : decode cX11_gap 5 = .ok (.aload_n 0, 1) := by decide +kernel
theorem dX11_gap_6 : decode cX11_gap 6 = .ok (.iload_n 1, 1) := by decide +kernel
theorem dX11_gap_7 : decode cX11_gap 7 = .ok (.invokevirtual 343, 3) := by decide +kernel
theorem dX11_gap_10 : decode cX11_gap 10 = .ok (.ifCond .eq 27, 3) := by decide +kernel
theorem dX11_gap_13 : decode cX11_gap 13 = .ok (.iload_n 2, 1) := by decide +kernel
theorem dX11_gap_14 : decode cX11_gap 14 = .ok (.i2l, 1) := by decide +kernel
theorem dX11_gap_15 : decode cX11_gap 15 = .ok (.lconst 0, 1) := by decide +kernel
theorem dX11_gap_16 : decode cX11_gap 16 = .ok (.ldc2_w 334, 3) := by decide +kernel
theorem dX11_gap_19 : decode cX11_gap 19 = .ok (.invokestatic 156, 3) := by decide +kernel
theorem dX11_gap_22 : decode cX11_gap 22 = .ok (.ifCond .eq 15, 3) := by decide +kernel
theorem dX11_gap_25 : decode cX11_gap 25 = .ok (.iload_n 3, 1) := by decide +kernel
theorem dX11_gap_26 : decode cX11_gap 26 = .ok (.i2l, 1) := by decide +kernel
theorem dX11_gap_27 : decode cX11_gap 27 = .ok (.lconst 0, 1) := by decide +kernel
theorem dX11_gap_28 : decode cX11_gap 28 = .ok (.ldc2_w 334, 3) := by decide +kernel
theorem dX11_gap_31 : decode cX11_gap 31 = .ok (.invokestatic 156, 3) := by decide +kernel
theorem dX11_gap_34 : decode cX11_gap 34 = .ok (.ifCond .ne 7, 3) := by decide +kernel
theorem dX11_gap_37 : decode cX11_gap 37 = .ok (.ldc_w 349, 3) := by decide +kernel
theorem dX11_gap_40 : decode cX11_gap 40 = .ok (.ireturn, 1) := by decide +kernel
theorem dX11_gap_41 : decode cX11_gap 41 = .ok (.aload_n 0, 1) := by decide +kernel
theorem dX11_gap_42 : decode cX11_gap 42 = .ok (.iload_n 1, 1) := by decide +kernel
theorem dX11_gap_43 : decode cX11_gap 43 = .ok (.aload_n 0, 1) := by decide +kernel
theorem dX11_gap_44 : decode cX11_gap 44 = .ok (.iload_n 1, 1) := by decide +kernel
theorem dX11_gap_45 : decode cX11_gap 45 = .ok (.invokevirtual 328, 3) := by decide +kernel
theorem dX11_gap_48 : decode cX11_gap 48 = .ok (.invokevirtual 321, 3) := by decide +kernel
theorem dX11_gap_51 : decode cX11_gap 51 = .ok (.aload_n 0, 1) := by decide +kernel
theorem dX11_gap_52 : decode cX11_gap 52 = .ok (.invokevirtual 325, 3) := by decide +kernel
theorem dX11_gap_55 : decode cX11_gap 55 = .ok (.ifCond .ne 7, 3) := by decide +kernel
theorem dX11_gap_58 : decode cX11_gap 58 = .ok (.ldc_w 350, 3) := by decide +kernel
theorem dX11_gap_61 : decode cX11_gap 61 = .ok (.ireturn, 1) := by decide +kernel
theorem dX11_gap_62 : decode cX11_gap 62 = .ok (.iload 4, 2) := by decide +kernel
theorem dX11_gap_64 : decode cX11_gap 64 = .ok (.ifCond .eq 23, 3) := by decide +kernel
theorem dX11_gap_67 : decode cX11_gap 67 = .ok (.aload_n 0, 1) := by decide +kernel
theorem dX11_gap_68 : decode cX11_gap 68 = .ok (.getfield 109, 3) := by decide +kernel
theorem dX11_gap_71 : decode cX11_gap 71 = .ok (.bipush 10, 2) := by decide +kernel
theorem dX11_gap_73 : decode cX11_gap 73 = .ok (.bipush 6, 2) := by decide +kernel
theorem dX11_gap_75 : decode cX11_gap 75 = .ok (.iload_n 2, 1) := by decide +kernel
theorem dX11_gap_76 : decode cX11_gap 76 = .ok (.iadd, 1) := by decide +kernel
theorem dX11_gap_77 : decode cX11_gap 77 = .ok (.imul, 1) := by decide +kernel
theorem dX11_gap_78 : decode cX11_gap 78 = .ok (.bipush 6, 2) := by decide +kernel
theorem dX11_gap_80 : decode cX11_gap 80 = .ok (.iadd, 1) := by decide +kernel
theorem dX11_gap_81 : decode cX11_gap 81 = .ok (.iload_n 3, 1) := by decide +kernel
theorem dX11_gap_82 : decode cX11_gap 82 = .ok (.iadd, 1) := by decide +kernel
theorem dX11_gap_83 : decode cX11_gap 83 = .ok (.iaload, 1) := by decide +kernel
theorem dX11_gap_84 : decode cX11_gap 84 = .ok (.goto 20, 3) := by decide +kernel
theorem dX11_gap_87 : decode cX11_gap 87 = .ok (.aload_n 0, 1) := by decide +kernel
theorem dX11_gap_88 : decode cX11_gap 88 = .ok (.getfield 109, 3) := by decide +kernel
theorem dX11_gap_91 : decode cX11_gap 91 = .ok (.bipush 10, 2) := by decide +kernel
theorem dX11_gap_93 : decode cX11_gap 93 = .ok (.bipush 6, 2) := by decide +kernel
theorem dX11_gap_95 : decode cX11_gap 95 = .ok (.iload_n 3, 1) := by decide +kernel
theorem dX11_gap_96 : decode cX11_gap 96 = .ok (.iadd, 1) := by decide +kernel
theorem dX11_gap_97 : decode cX11_gap 97 = .ok (.imul, 1) := by decide +kernel
theorem dX11_gap_98 : decode cX11_gap 98 = .ok (.bipush 6, 2) := by decide +kernel
theorem dX11_gap_100 : decode cX11_gap 100 = .ok (.iadd, 1) := by decide +kernel
theorem dX11_gap_101 : decode cX11_gap 101 = .ok (.iload_n 2, 1) := by decide +kernel
theorem dX11_gap_102 : decode cX11_gap 102 = .ok (.iadd, 1) := by decide +kernel
theorem dX11_gap_103 : decode cX11_gap 103 = .ok (.iaload, 1) := by decide +kernel
theorem dX11_gap_104 : decode cX11_gap 104 = .ok (.istore 5, 2) := by decide +kernel
theorem dX11_gap_106 : decode cX11_gap 106 = .ok (.iload 5, 2) := by decide +kernel
theorem dX11_gap_108 : decode cX11_gap 108 = .ok (.ldc_w 313, 3) := by decide +kernel
theorem dX11_gap_111 : decode cX11_gap 111 = .ok (.if_icmp .ne 9, 3) := by decide +kernel
theorem dX11_gap_114 : decode cX11_gap 114 = .ok (.ldc_w 351, 3) := by decide +kernel
theorem dX11_gap_117 : decode cX11_gap 117 = .ok (.goto 16, 3) := by decide +kernel
theorem dX11_gap_120 : decode cX11_gap 120 = .ok (.iload 4, 2) := by decide +kernel
theorem dX11_gap_122 : decode cX11_gap 122 = .ok (.ifCond .eq 8, 3) := by decide +kernel
theorem dX11_gap_125 : decode cX11_gap 125 = .ok (.iload 5, 2) := by decide +kernel
theorem dX11_gap_127 : decode cX11_gap 127 = .ok (.goto 6, 3) := by decide +kernel
theorem dX11_gap_130 : decode cX11_gap 130 = .ok (.iload 5, 2) := by decide +kernel
theorem dX11_gap_132 : decode cX11_gap 132 = .ok (.ineg, 1) := by decide +kernel
theorem dX11_gap_133 : decode cX11_gap 133 = .ok (.ireturn, 1) := by decide +kernel
theorem dX11_isSure_0 : decode cX11_isSure 0 = .ok (.iload_n 0, 1) := by decide +kernel
theorem dX11_isSure_1 : decode cX11_isSure 1 = .ok (.ifCond .eq 8, 3) := by decide +kernel
theorem dX11_isSure_4 : decode cX11_isSure 4 = .ok (.iload_n 0, 1) := by decide +kernel
theorem dX11_isSure_5 : decode cX11_isSure 5 = .ok (.iconst 1, 1) := by decide +kernel
theorem dX11_isSure_6 : decode cX11_isSure 6 = .ok (.if_icmp .ne 7, 3) := by decide +kernel
theorem dX11_isSure_9 : decode cX11_isSure 9 = .ok (.iconst 1, 1) := by decide +kernel
theorem dX11_isSure_10 : decode cX11_isSure 10 = .ok (.goto 4, 3) := by decide +kernel
theorem dX11_isSure_13 : decode cX11_isSure 13 = .ok (.iconst 0, 1) := by decide +kernel
theorem dX11_isSure_14 : decode cX11_isSure 14 = .ok (.ireturn, 1) := by decide +kernel
theorem dX11_isFewer_0 : decode cX11_isFewer 0 = .ok (.iload_n 1, 1) := by decide +kernel
theorem dX11_isFewer_1 : decode cX11_isFewer 1 = .ok (.iconst (-1), 1) := by decide +kernel
theorem dX11_isFewer_2 : decode cX11_isFewer 2 = .ok (.if_icmp .eq 14, 3) := by decide +kernel
theorem dX11_isFewer_5 : decode cX11_isFewer 5 = .ok (.iload_n 0, 1) := by decide +kernel
theorem dX11_isFewer_6 : decode cX11_isFewer 6 = .ok (.invokestatic 352, 3) := by decide +kernel
theorem dX11_isFewer_9 : decode cX11_isFewer 9 = .ok (.iload_n 1, 1) := by decide +kernel
theorem dX11_isFewer_10 : decode cX11_isFewer 10 = .ok (.invokestatic 352, 3) := by decide +kernel
theorem dX11_isFewer_13 : decode cX11_isFewer 13 = .ok (.if_icmp .ge 7, 3) := by decide +kernel
theorem dX11_isFewer_16 : decode cX11_isFewer 16 = .ok (.iconst 1, 1) := by decide +kernel
theorem dX11_isFewer_17 : decode cX11_isFewer 17 = .ok (.goto 4, 3) := by decide +kernel
theorem dX11_isFewer_20 : decode cX11_isFewer 20 = .ok (.iconst 0, 1) := by decide +kernel
theorem dX11_isFewer_21 : decode cX11_isFewer 21 = .ok (.ireturn, 1) := by decide +kernel
theorem dX11_fewest_0 : decode cX11_fewest 0 = .ok (.aload_n 0, 1) := by decide +kernel
theorem dX11_fewest_1 : decode cX11_fewest 1 = .ok (.iconst 0, 1) := by decide +kernel
theorem dX11_fewest_2 : decode cX11_fewest 2 = .ok (.putfield 119, 3) := by decide +kernel
theorem dX11_fewest_5 : decode cX11_fewest 5 = .ok (.aload_n 0, 1) := by decide +kernel
theorem dX11_fewest_6 : decode cX11_fewest 6 = .ok (.iload_n 1, 1) := by decide +kernel
theorem dX11_fewest_7 : decode cX11_fewest 7 = .ok (.invokevirtual 343, 3) := by decide +kernel
theorem dX11_fewest_10 : decode cX11_fewest 10 = .ok (.ifCond .ne 5, 3) := by decide +kernel
theorem dX11_fewest_13 : decode cX11_fewest 13 = .ok (.iconst (-1), 1) := by decide +kernel
theorem dX11_fewest_14 : decode cX11_fewest 14 = .ok (.ireturn, 1) := by decide +kernel
theorem dX11_fewest_15 : decode cX11_fewest 15 = .ok (.aload_n 0, 1) := by decide +kernel
theorem dX11_fewest_16 : decode cX11_fewest 16 = .ok (.iload_n 1, 1) := by decide +kernel
theorem dX11_fewest_17 : decode cX11_fewest 17 = .ok (.invokevirtual 355, 3) := by decide +kernel
theorem dX11_fewest_20 : decode cX11_fewest 20 = .ok (.istore_n 2, 1) := by decide +kernel
theorem dX11_fewest_21 : decode cX11_fewest 21 = .ok (.iload_n 2, 1) := by decide +kernel
theorem dX11_fewest_22 : decode cX11_fewest 22 = .ok (.invokestatic 358, 3) := by decide +kernel
theorem dX11_fewest_25 : decode cX11_fewest 25 = .ok (.ifCond .ne 6, 3) := by decide +kernel
theorem dX11_fewest_28 : decode cX11_fewest 28 = .ok (.bipush (-2), 2) := by decide +kernel
theorem dX11_fewest_30 : decode cX11_fewest 30 = .ok (.ireturn, 1) := by decide +kernel
theorem dX11_fewest_31 : decode cX11_fewest 31 = .ok (.iconst (-1), 1) := by decide +kernel
theorem dX11_fewest_32 : decode cX11_fewest 32 = .ok (.istore_n 3, 1) := by decide +kernel
theorem dX11_fewest_33 : decode cX11_fewest 33 = .ok (.iconst 0, 1) := by decide +kernel
theorem dX11_fewest_34 : decode cX11_fewest 34 = .ok (.istore 4, 2) := by decide +kernel
theorem dX11_fewest_36 : decode cX11_fewest 36 = .ok (.iload 4, 2) := by decide +kernel
theorem dX11_fewest_38 : decode cX11_fewest 38 = .ok (.aload_n 0, 1) := by decide +kernel
theorem dX11_fewest_39 : decode cX11_fewest 39 = .ok (.iload_n 1, 1) := by decide +kernel
theorem dX11_fewest_40 : decode cX11_fewest 40 = .ok (.invokevirtual 328, 3) := by decide +kernel
theorem dX11_fewest_43 : decode cX11_fewest 43 = .ok (.if_icmp .gt 32, 3) := by decide +kernel
theorem dX11_fewest_46 : decode cX11_fewest 46 = .ok (.iload 4, 2) := by decide +kernel
theorem dX11_fewest_48 : decode cX11_fewest 48 = .ok (.iload_n 3, 1) := by decide +kernel
theorem dX11_fewest_49 : decode cX11_fewest 49 = .ok (.invokestatic 361, 3) := by decide +kernel
theorem dX11_fewest_52 : decode cX11_fewest 52 = .ok (.ifCond .eq 17, 3) := by decide +kernel
theorem dX11_fewest_55 : decode cX11_fewest 55 = .ok (.aload_n 0, 1) := by decide +kernel
theorem dX11_fewest_56 : decode cX11_fewest 56 = .ok (.iload_n 1, 1) := by decide +kernel
theorem dX11_fewest_57 : decode cX11_fewest 57 = .ok (.iload 4, 2) := by decide +kernel
theorem dX11_fewest_59 : decode cX11_fewest 59 = .ok (.invokevirtual 331, 3) := by decide +kernel
theorem dX11_fewest_62 : decode cX11_fewest 62 = .ok (.iload_n 2, 1) := by decide +kernel
theorem dX11_fewest_63 : decode cX11_fewest 63 = .ok (.if_icmp .ne 6, 3) := by decide +kernel
theorem dX11_fewest_66 : decode cX11_fewest 66 = .ok (.iload 4, 2) := by decide +kernel
theorem dX11_fewest_68 : decode cX11_fewest 68 = .ok (.istore_n 3, 1) := by decide +kernel
theorem dX11_fewest_69 : decode cX11_fewest 69 = .ok (.iinc 4 1, 3) := by decide +kernel
theorem dX11_fewest_72 : decode cX11_fewest 72 = .ok (.goto (-36), 3) := by decide +kernel
theorem dX11_fewest_75 : decode cX11_fewest 75 = .ok (.iload_n 3, 1) := by decide +kernel
theorem dX11_fewest_76 : decode cX11_fewest 76 = .ok (.ireturn, 1) := by decide +kernel
theorem dX11_key_0 : decode cX11_key 0 = .ok (.aload_n 0, 1) := by decide +kernel
theorem dX11_key_1 : decode cX11_key 1 = .ok (.iconst 0, 1) := by decide +kernel
theorem dX11_key_2 : decode cX11_key 2 = .ok (.putfield 119, 3) := by decide +kernel
theorem dX11_key_5 : decode cX11_key 5 = .ok (.aload_n 0, 1) := by decide +kernel
theorem dX11_key_6 : decode cX11_key 6 = .ok (.iload_n 1, 1) := by decide +kernel
theorem dX11_key_7 : decode cX11_key 7 = .ok (.invokevirtual 343, 3) := by decide +kernel
theorem dX11_key_10 : decode cX11_key 10 = .ok (.ifCond .ne 5, 3) := by decide +kernel
theorem dX11_key_13 : decode cX11_key 13 = .ok (.iconst (-1), 1) := by decide +kernel
theorem dX11_key_14 : decode cX11_key 14 = .ok (.ireturn, 1) := by decide +kernel
theorem dX11_key_15 : decode cX11_key 15 = .ok (.aload_n 0, 1) := by decide +kernel
theorem dX11_key_16 : decode cX11_key 16 = .ok (.iload_n 1, 1) := by decide +kernel
theorem dX11_key_17 : decode cX11_key 17 = .ok (.invokevirtual 355, 3) := by decide +kernel
theorem dX11_key_20 : decode cX11_key 20 = .ok (.invokestatic 358, 3) := by decide +kernel
theorem dX11_key_23 : decode cX11_key 23 = .ok (.ifCond .ne 6, 3) := by decide +kernel
theorem dX11_key_26 : decode cX11_key 26 = .ok (.bipush (-2), 2) := by decide +kernel
theorem dX11_key_28 : decode cX11_key 28 = .ok (.ireturn, 1) := by decide +kernel
theorem dX11_key_29 : decode cX11_key 29 = .ok (.iconst 0, 1) := by decide +kernel
theorem dX11_key_30 : decode cX11_key 30 = .ok (.istore_n 2, 1) := by decide +kernel
theorem dX11_key_31 : decode cX11_key 31 = .ok (.iconst 0, 1) := by decide +kernel
theorem dX11_key_32 : decode cX11_key 32 = .ok (.istore_n 3, 1) := by decide +kernel
theorem dX11_key_33 : decode cX11_key 33 = .ok (.iload_n 3, 1) := by decide +kernel
theorem dX11_key_34 : decode cX11_key 34 = .ok (.aload_n 0, 1) := by decide +kernel
theorem dX11_key_35 : decode cX11_key 35 = .ok (.getfield 82, 3) := by decide +kernel
theorem dX11_key_38 : decode cX11_key 38 = .ok (.iload_n 1, 1) := by decide +kernel
theorem dX11_key_39 : decode cX11_key 39 = .ok (.iaload, 1) := by decide +kernel
theorem dX11_key_40 : decode cX11_key 40 = .ok (.if_icmp .ge 39, 3) := by decide +kernel
theorem dX11_key_43 : decode cX11_key 43 = .ok (.iload_n 2, 1) := by decide +kernel
theorem dX11_key_44 : decode cX11_key 44 = .ok (.aload_n 0, 1) := by decide +kernel
theorem dX11_key_45 : decode cX11_key 45 = .ok (.iload_n 1, 1) := by decide +kernel
theorem dX11_key_46 : decode cX11_key 46 = .ok (.aload_n 0, 1) := by decide +kernel
theorem dX11_key_47 : decode cX11_key 47 = .ok (.iload_n 1, 1) := by decide +kernel
theorem dX11_key_48 : decode cX11_key 48 = .ok (.invokevirtual 328, 3) := by decide +kernel
theorem dX11_key_51 : decode cX11_key 51 = .ok (.iconst 1, 1) := by decide +kernel
theorem dX11_key_52 : decode cX11_key 52 = .ok (.iload_n 3, 1) := by decide +kernel
theorem dX11_key_53 : decode cX11_key 53 = .ok (.ishl, 1) := by decide +kernel
theorem dX11_key_54 : decode cX11_key 54 = .ok (.iconst (-1), 1) := by decide +kernel
theorem dX11_key_55 : decode cX11_key 55 = .ok (.ixor, 1) := by decide +kernel
theorem dX11_key_56 : decode cX11_key 56 = .ok (.iand, 1) := by decide +kernel
theorem dX11_key_57 : decode cX11_key 57 = .ok (.invokevirtual 331, 3) := by decide +kernel
theorem dX11_key_60 : decode cX11_key 60 = .ok (.iconst 2, 1) := by decide +kernel
theorem dX11_key_61 : decode cX11_key 61 = .ok (.if_icmp .ne 9, 3) := by decide +kernel
theorem dX11_key_64 : decode cX11_key 64 = .ok (.iconst 1, 1) := by decide +kernel
theorem dX11_key_65 : decode cX11_key 65 = .ok (.iload_n 3, 1) := by decide +kernel
theorem dX11_key_66 : decode cX11_key 66 = .ok (.ishl, 1) := by decide +kernel
theorem dX11_key_67 : decode cX11_key 67 = .ok (.goto 4, 3) := by decide +kernel
theorem dX11_key_70 : decode cX11_key 70 = .ok (.iconst 0, 1) := by decide +kernel
theorem dX11_key_71 : decode cX11_key 71 = .ok (.ior, 1) := by decide +kernel
theorem dX11_key_72 : decode cX11_key 72 = .ok (.istore_n 2, 1) := by decide +kernel
theorem dX11_key_73 : decode cX11_key 73 = .ok (.iinc 3 1, 3) := by decide +kernel
theorem dX11_key_76 : decode cX11_key 76 = .ok (.goto (-43), 3) := by decide +kernel
theorem dX11_key_79 : decode cX11_key 79 = .ok (.iload_n 2, 1) := by decide +kernel
theorem dX11_key_80 : decode cX11_key 80 = .ok (.ireturn, 1) := by decide +kernel
theorem dX11_enough_0 : decode cX11_enough 0 = .ok (.aload_n 0, 1) := by decide +kernel
theorem dX11_enough_1 : decode cX11_enough 1 = .ok (.iconst 0, 1) := by decide +kernel
theorem dX11_enough_2 : decode cX11_enough 2 = .ok (.putfield 119, 3) := by decide +kernel
theorem dX11_enough_5 : decode cX11_enough 5 = .ok (.aload_n 0, 1) := by decide +kernel
theorem dX11_enough_6 : decode cX11_enough 6 = .ok (.iload_n 1, 1) := by decide +kernel
theorem dX11_enough_7 : decode cX11_enough 7 = .ok (.invokevirtual 343, 3) := by decide +kernel
theorem dX11_enough_10 : decode cX11_enough 10 = .ok (.ifCond .ne 5, 3) := by decide +kernel
theorem dX11_enough_13 : decode cX11_enough 13 = .ok (.iconst (-1), 1) := by decide +kernel
theorem dX11_enough_14 : decode cX11_enough 14 = .ok (.ireturn, 1) := by decide +kernel
theorem dX11_enough_15 : decode cX11_enough 15 = .ok (.aload_n 0, 1) := by decide +kernel
theorem dX11_enough_16 : decode cX11_enough 16 = .ok (.iload_n 1, 1) := by decide +kernel
theorem dX11_enough_17 : decode cX11_enough 17 = .ok (.invokevirtual 355, 3) := by decide +kernel
theorem dX11_enough_20 : decode cX11_enough 20 = .ok (.istore_n 2, 1) := by decide +kernel
theorem dX11_enough_21 : decode cX11_enough 21 = .ok (.iload_n 2, 1) := by decide +kernel
theorem dX11_enough_22 : decode cX11_enough 22 = .ok (.invokestatic 358, 3) := by decide +kernel
theorem dX11_enough_25 : decode cX11_enough 25 = .ok (.ifCond .ne 6, 3) := by decide +kernel
theorem dX11_enough_28 : decode cX11_enough 28 = .ok (.bipush (-2), 2) := by decide +kernel
theorem dX11_enough_30 : decode cX11_enough 30 = .ok (.ireturn, 1) := by decide +kernel
theorem dX11_enough_31 : decode cX11_enough 31 = .ok (.iconst (-1), 1) := by decide +kernel
theorem dX11_enough_32 : decode cX11_enough 32 = .ok (.istore_n 3, 1) := by decide +kernel
theorem dX11_enough_33 : decode cX11_enough 33 = .ok (.iconst 0, 1) := by decide +kernel
theorem dX11_enough_34 : decode cX11_enough 34 = .ok (.istore 4, 2) := by decide +kernel
theorem dX11_enough_36 : decode cX11_enough 36 = .ok (.iload 4, 2) := by decide +kernel
theorem dX11_enough_38 : decode cX11_enough 38 = .ok (.iconst 1, 1) := by decide +kernel
theorem dX11_enough_39 : decode cX11_enough 39 = .ok (.aload_n 0, 1) := by decide +kernel
theorem dX11_enough_40 : decode cX11_enough 40 = .ok (.getfield 13, 3) := by decide +kernel
theorem dX11_enough_43 : decode cX11_enough 43 = .ok (.iconst 0, 1) := by decide +kernel
theorem dX11_enough_44 : decode cX11_enough 44 = .ok (.iaload, 1) := by decide +kernel
theorem dX11_enough_45 : decode cX11_enough 45 = .ok (.ishl, 1) := by decide +kernel
theorem dX11_enough_46 : decode cX11_enough 46 = .ok (.if_icmp .ge 37, 3) := by decide +kernel
theorem dX11_enough_49 : decode cX11_enough 49 = .ok (.iload 4, 2) := by decide +kernel
theorem dX11_enough_51 : decode cX11_enough 51 = .ok (.iload_n 3, 1) := by decide +kernel
theorem dX11_enough_52 : decode cX11_enough 52 = .ok (.invokestatic 361, 3) := by decide +kernel
theorem dX11_enough_55 : decode cX11_enough 55 = .ok (.ifCond .eq 22, 3) := by decide +kernel
theorem dX11_enough_58 : decode cX11_enough 58 = .ok (.aload_n 0, 1) := by decide +kernel
theorem dX11_enough_59 : decode cX11_enough 59 = .ok (.iload_n 1, 1) := by decide +kernel
theorem dX11_enough_60 : decode cX11_enough 60 = .ok (.aload_n 0, 1) := by decide +kernel
theorem dX11_enough_61 : decode cX11_enough 61 = .ok (.iload_n 1, 1) := by decide +kernel
theorem dX11_enough_62 : decode cX11_enough 62 = .ok (.iload 4, 2) := by decide +kernel
theorem dX11_enough_64 : decode cX11_enough 64 = .ok (.invokevirtual 346, 3) := by decide +kernel
theorem dX11_enough_67 : decode cX11_enough 67 = .ok (.invokevirtual 331, 3) := by decide +kernel
theorem dX11_enough_70 : decode cX11_enough 70 = .ok (.iload_n 2, 1) := by decide +kernel
theorem dX11_enough_71 : decode cX11_enough 71 = .ok (.if_icmp .ne 6, 3) := by decide +kernel
theorem dX11_enough_74 : decode cX11_enough 74 = .ok (.iload 4, 2) := by decide +kernel
theorem dX11_enough_76 : decode cX11_enough 76 = .ok (.istore_n 3, 1) := by decide +kernel
theorem dX11_enough_77 : decode cX11_enough 77 = .ok (.iinc 4 1, 3) := by decide +kernel
theorem dX11_enough_80 : decode cX11_enough 80 = .ok (.goto (-44), 3) := by decide +kernel
theorem dX11_enough_83 : decode cX11_enough 83 = .ok (.iload_n 3, 1) := by decide +kernel
theorem dX11_enough_84 : decode cX11_enough 84 = .ok (.ireturn, 1) := by decide +kernel
theorem dX11_mend_0 : decode cX11_mend 0 = .ok (.aload_n 0, 1) := by decide +kernel
theorem dX11_mend_1 : decode cX11_mend 1 = .ok (.iconst 0, 1) := by decide +kernel
theorem dX11_mend_2 : decode cX11_mend 2 = .ok (.putfield 119, 3) := by decide +kernel
theorem dX11_mend_5 : decode cX11_mend 5 = .ok (.aload_n 0, 1) := by decide +kernel
theorem dX11_mend_6 : decode cX11_mend 6 = .ok (.iload_n 1, 1) := by decide +kernel
theorem dX11_mend_7 : decode cX11_mend 7 = .ok (.invokevirtual 343, 3) := by decide +kernel
theorem dX11_mend_10 : decode cX11_mend 10 = .ok (.ifCond .ne 5, 3) := by decide +kernel
theorem dX11_mend_13 : decode cX11_mend 13 = .ok (.iconst (-1), 1) := by decide +kernel
theorem dX11_mend_14 : decode cX11_mend 14 = .ok (.ireturn, 1) := by decide +kernel
theorem dX11_mend_15 : decode cX11_mend 15 = .ok (.aload_n 0, 1) := by decide +kernel
theorem dX11_mend_16 : decode cX11_mend 16 = .ok (.iload_n 1, 1) := by decide +kernel
theorem dX11_mend_17 : decode cX11_mend 17 = .ok (.iconst 0, 1) := by decide +kernel
theorem dX11_mend_18 : decode cX11_mend 18 = .ok (.invokevirtual 331, 3) := by decide +kernel
theorem dX11_mend_21 : decode cX11_mend 21 = .ok (.iconst 3, 1) := by decide +kernel
theorem dX11_mend_22 : decode cX11_mend 22 = .ok (.if_icmp .ne 6, 3) := by decide +kernel
theorem dX11_mend_25 : decode cX11_mend 25 = .ok (.bipush (-2), 2) := by decide +kernel
theorem dX11_mend_27 : decode cX11_mend 27 = .ok (.ireturn, 1) := by decide +kernel
theorem dX11_mend_28 : decode cX11_mend 28 = .ok (.iconst (-1), 1) := by decide +kernel
theorem dX11_mend_29 : decode cX11_mend 29 = .ok (.istore_n 2, 1) := by decide +kernel
theorem dX11_mend_30 : decode cX11_mend 30 = .ok (.iconst 0, 1) := by decide +kernel
theorem dX11_mend_31 : decode cX11_mend 31 = .ok (.istore_n 3, 1) := by decide +kernel
theorem dX11_mend_32 : decode cX11_mend 32 = .ok (.iload_n 3, 1) := by decide +kernel
theorem dX11_mend_33 : decode cX11_mend 33 = .ok (.aload_n 0, 1) := by decide +kernel
theorem dX11_mend_34 : decode cX11_mend 34 = .ok (.iload_n 1, 1) := by decide +kernel
theorem dX11_mend_35 : decode cX11_mend 35 = .ok (.invokevirtual 328, 3) := by decide +kernel
theorem dX11_mend_38 : decode cX11_mend 38 = .ok (.if_icmp .gt 37, 3) := by decide +kernel
theorem dX11_mend_41 : decode cX11_mend 41 = .ok (.iload_n 3, 1) := by decide +kernel
theorem dX11_mend_42 : decode cX11_mend 42 = .ok (.iload_n 2, 1) := by decide +kernel
theorem dX11_mend_43 : decode cX11_mend 43 = .ok (.invokestatic 361, 3) := by decide +kernel
theorem dX11_mend_46 : decode cX11_mend 46 = .ok (.ifCond .eq 23, 3) := by decide +kernel
theorem dX11_mend_49 : decode cX11_mend 49 = .ok (.aload_n 0, 1) := by decide +kernel
theorem dX11_mend_50 : decode cX11_mend 50 = .ok (.iload_n 1, 1) := by decide +kernel
theorem dX11_mend_51 : decode cX11_mend 51 = .ok (.aload_n 0, 1) := by decide +kernel
theorem dX11_mend_52 : decode cX11_mend 52 = .ok (.iload_n 1, 1) := by decide +kernel
theorem dX11_mend_53 : decode cX11_mend 53 = .ok (.invokevirtual 328, 3) := by decide +kernel
theorem dX11_mend_56 : decode cX11_mend 56 = .ok (.iload_n 3, 1) := by decide +kernel
theorem dX11_mend_57 : decode cX11_mend 57 = .ok (.iconst (-1), 1) := by decide +kernel
theorem dX11_mend_58 : decode cX11_mend 58 = .ok (.ixor, 1) := by decide +kernel
theorem dX11_mend_59 : decode cX11_mend 59 = .ok (.iand, 1) := by decide +kernel
theorem dX11_mend_60 : decode cX11_mend 60 = .ok (.invokevirtual 331, 3) := by decide +kernel
theorem dX11_mend_63 : decode cX11_mend 63 = .ok (.iconst 3, 1) := by decide +kernel
theorem dX11_mend_64 : decode cX11_mend 64 = .ok (.if_icmp .eq 5, 3) := by decide +kernel
theorem dX11_mend_67 : decode cX11_mend 67 = .ok (.iload_n 3, 1) := by decide +kernel
theorem dX11_mend_68 : decode cX11_mend 68 = .ok (.istore_n 2, 1) := by decide +kernel
theorem dX11_mend_69 : decode cX11_mend 69 = .ok (.iinc 3 1, 3) := by decide +kernel
theorem dX11_mend_72 : decode cX11_mend 72 = .ok (.goto (-40), 3) := by decide +kernel
theorem dX11_mend_75 : decode cX11_mend 75 = .ok (.iload_n 2, 1) := by decide +kernel
theorem dX11_mend_76 : decode cX11_mend 76 = .ok (.ireturn, 1) := by decide +kernel
theorem dX11_review_0 : decode cX11_review 0 = .ok (.aload_n 0, 1) := by decide +kernel
theorem dX11_review_1 : decode cX11_review 1 = .ok (.iconst 0, 1) := by decide +kernel
theorem dX11_review_2 : decode cX11_review 2 = .ok (.putfield 364, 3) := by decide +kernel
theorem dX11_review_5 : decode cX11_review 5 = .ok (.aload_n 0, 1) := by decide +kernel
theorem dX11_review_6 : decode cX11_review 6 = .ok (.iload_n 1, 1) := by decide +kernel
theorem dX11_review_7 : decode cX11_review 7 = .ok (.iconst 0, 1) := by decide +kernel
theorem dX11_review_8 : decode cX11_review 8 = .ok (.invokevirtual 331, 3) := by decide +kernel
theorem dX11_review_11 : decode cX11_review 11 = .ok (.istore_n 3, 1) := by decide +kernel
theorem dX11_review_12 : decode cX11_review 12 = .ok (.iload_n 3, 1) := by decide +kernel
theorem dX11_review_13 : decode cX11_review 13 = .ok (.iconst 2, 1) := by decide +kernel
theorem dX11_review_14 : decode cX11_review 14 = .ok (.if_icmp .ne 70, 3) := by decide +kernel
theorem dX11_review_17 : decode cX11_review 17 = .ok (.aload_n 0, 1) := by decide +kernel
theorem dX11_review_18 : decode cX11_review 18 = .ok (.getfield 364, 3) := by decide +kernel
theorem dX11_review_21 : decode cX11_review 21 = .ok (.aload_n 0, 1) := by decide +kernel
theorem dX11_review_22 : decode cX11_review 22 = .ok (.getfield 82, 3) := by decide +kernel
theorem dX11_review_25 : decode cX11_review 25 = .ok (.iload_n 1, 1) := by decide +kernel
theorem dX11_review_26 : decode cX11_review 26 = .ok (.iaload, 1) := by decide +kernel
theorem dX11_review_27 : decode cX11_review 27 = .ok (.if_icmp .ge 57, 3) := by decide +kernel
theorem dX11_review_30 : decode cX11_review 30 = .ok (.aload_n 0, 1) := by decide +kernel
theorem dX11_review_31 : decode cX11_review 31 = .ok (.getfield 364, 3) := by decide +kernel
theorem dX11_review_34 : decode cX11_review 34 = .ok (.iconst 1, 1) := by decide +kernel
theorem dX11_review_35 : decode cX11_review 35 = .ok (.iadd, 1) := by decide +kernel
theorem dX11_review_36 : decode cX11_review 36 = .ok (.aload_n 0, 1) := by decide +kernel
theorem dX11_review_37 : decode cX11_review 37 = .ok (.getfield 40, 3) := by decide +kernel
theorem dX11_review_40 : decode cX11_review 40 = .ok (.aload_n 0, 1) := by decide +kernel
theorem dX11_review_41 : decode cX11_review 41 = .ok (.getfield 70, 3) := by decide +kernel
theorem dX11_review_44 : decode cX11_review 44 = .ok (.iload_n 1, 1) := by decide +kernel
theorem dX11_review_45 : decode cX11_review 45 = .ok (.iaload, 1) := by decide +kernel
theorem dX11_review_46 : decode cX11_review 46 = .ok (.iaload, 1) := by decide +kernel
theorem dX11_review_47 : decode cX11_review 47 = .ok (.imul, 1) := by decide +kernel
theorem dX11_review_48 : decode cX11_review 48 = .ok (.aload_n 0, 1) := by decide +kernel
theorem dX11_review_49 : decode cX11_review 49 = .ok (.getfield 17, 3) := by decide +kernel
theorem dX11_review_52 : decode cX11_review 52 = .ok (.iconst 0, 1) := by decide +kernel
theorem dX11_review_53 : decode cX11_review 53 = .ok (.iaload, 1) := by decide +kernel
theorem dX11_review_54 : decode cX11_review 54 = .ok (.if_icmp .gt 30, 3) := by decide +kernel
theorem dX11_review_57 : decode cX11_review 57 = .ok (.aload_n 0, 1) := by decide +kernel
theorem dX11_review_58 : decode cX11_review 58 = .ok (.dup, 1) := by decide +kernel
theorem dX11_review_59 : decode cX11_review 59 = .ok (.getfield 364, 3) := by decide +kernel
theorem dX11_review_62 : decode cX11_review 62 = .ok (.iconst 1, 1) := by decide +kernel
theorem dX11_review_63 : decode cX11_review 63 = .ok (.iadd, 1) := by decide +kernel
theorem dX11_review_64 : decode cX11_review 64 = .ok (.putfield 364, 3) := by decide +kernel
theorem dX11_review_67 : decode cX11_review 67 = .ok (.aload_n 0, 1) := by decide +kernel
theorem dX11_review_68 : decode cX11_review 68 = .ok (.iload_n 1, 1) := by decide +kernel
theorem dX11_review_69 : decode cX11_review 69 = .ok (.iconst 1, 1) := by decide +kernel
theorem dX11_review_70 : decode cX11_review 70 = .ok (.aload_n 0, 1) := by decide +kernel
theorem dX11_review_71 : decode cX11_review 71 = .ok (.getfield 364, 3) := by decide +kernel
theorem dX11_review_74 : decode cX11_review 74 = .ok (.ishl, 1) := by decide +kernel
theorem dX11_review_75 : decode cX11_review 75 = .ok (.iconst 1, 1) := by decide +kernel
theorem dX11_review_76 : decode cX11_review 76 = .ok (.isub, 1) := by decide +kernel
theorem dX11_review_77 : decode cX11_review 77 = .ok (.invokevirtual 331, 3) := by decide +kernel
theorem dX11_review_80 : decode cX11_review 80 = .ok (.istore_n 3, 1) := by decide +kernel
theorem dX11_review_81 : decode cX11_review 81 = .ok (.goto (-69), 3) := by decide +kernel
theorem dX11_review_84 : decode cX11_review 84 = .ok (.iload_n 3, 1) := by decide +kernel
theorem dX11_review_85 : decode cX11_review 85 = .ok (.invokestatic 358, 3) := by decide +kernel
theorem dX11_review_88 : decode cX11_review 88 = .ok (.ifCond .ne 7, 3) := by decide +kernel
theorem dX11_review_91 : decode cX11_review 91 = .ok (.iconst 0, 1) := by decide +kernel
theorem dX11_review_92 : decode cX11_review 92 = .ok (.goto 13, 3) := by decide +kernel
theorem dX11_review_95 : decode cX11_review 95 = .ok (.iload_n 3, 1) := by decide +kernel
theorem dX11_review_96 : decode cX11_review 96 = .ok (.iload_n 2, 1) := by decide +kernel
theorem dX11_review_97 : decode cX11_review 97 = .ok (.if_icmp .ne 7, 3) := by decide +kernel
theorem dX11_review_100 : decode cX11_review 100 = .ok (.iconst 1, 1) := by decide +kernel
theorem dX11_review_101 : decode cX11_review 101 = .ok (.goto 4, 3) := by decide +kernel
theorem dX11_review_104 : decode cX11_review 104 = .ok (.iconst 2, 1) := by decide +kernel
theorem dX11_review_105 : decode cX11_review 105 = .ok (.ireturn, 1) := by decide +kernel
theorem dX11_secondsOf_0 : decode cX11_secondsOf 0 = .ok (.aload_n 0, 1) := by decide +kernel
theorem dX11_secondsOf_1 : decode cX11_secondsOf 1 = .ok (.getfield 364, 3) := by decide +kernel
theorem dX11_secondsOf_4 : decode cX11_secondsOf 4 = .ok (.aload_n 0, 1) := by decide +kernel
theorem dX11_secondsOf_5 : decode cX11_secondsOf 5 = .ok (.getfield 40, 3) := by decide +kernel
theorem dX11_secondsOf_8 : decode cX11_secondsOf 8 = .ok (.aload_n 0, 1) := by decide +kernel
theorem dX11_secondsOf_9 : decode cX11_secondsOf 9 = .ok (.getfield 70, 3) := by decide +kernel
theorem dX11_secondsOf_12 : decode cX11_secondsOf 12 = .ok (.iload_n 1, 1) := by decide +kernel
theorem dX11_secondsOf_13 : decode cX11_secondsOf 13 = .ok (.iaload, 1) := by decide +kernel
theorem dX11_secondsOf_14 : decode cX11_secondsOf 14 = .ok (.iaload, 1) := by decide +kernel
theorem dX11_secondsOf_15 : decode cX11_secondsOf 15 = .ok (.imul, 1) := by decide +kernel
theorem dX11_secondsOf_16 : decode cX11_secondsOf 16 = .ok (.ireturn, 1) := by decide +kernel
theorem dX11_look_0 : decode cX11_look 0 = .ok (.aload_n 0, 1) := by decide +kernel
theorem dX11_look_1 : decode cX11_look 1 = .ok (.iconst 0, 1) := by decide +kernel
theorem dX11_look_2 : decode cX11_look 2 = .ok (.putfield 119, 3) := by decide +kernel
theorem dX11_look_5 : decode cX11_look 5 = .ok (.aload_n 0, 1) := by decide +kernel
theorem dX11_look_6 : decode cX11_look 6 = .ok (.iload_n 1, 1) := by decide +kernel
theorem dX11_look_7 : decode cX11_look 7 = .ok (.invokevirtual 343, 3) := by decide +kernel
theorem dX11_look_10 : decode cX11_look 10 = .ok (.ifCond .eq 15, 3) := by decide +kernel
theorem dX11_look_13 : decode cX11_look 13 = .ok (.iload_n 2, 1) := by decide +kernel
theorem dX11_look_14 : decode cX11_look 14 = .ok (.i2l, 1) := by decide +kernel
theorem dX11_look_15 : decode cX11_look 15 = .ok (.lconst 0, 1) := by decide +kernel
theorem dX11_look_16 : decode cX11_look 16 = .ok (.ldc2_w 367, 3) := by decide +kernel
theorem dX11_look_19 : decode cX11_look 19 = .ok (.invokestatic 156, 3) := by decide +kernel
theorem dX11_look_22 : decode cX11_look 22 = .ok (.ifCond .ne 5, 3) := by decide +kernel
theorem dX11_look_25 : decode cX11_look 25 = .ok (.iconst (-1), 1) := by decide +kernel
theorem dX11_look_26 : decode cX11_look 26 = .ok (.ireturn, 1) := by decide +kernel
theorem dX11_look_27 : decode cX11_look 27 = .ok (.aload_n 0, 1) := by decide +kernel
theorem dX11_look_28 : decode cX11_look 28 = .ok (.iload_n 1, 1) := by decide +kernel
theorem dX11_look_29 : decode cX11_look 29 = .ok (.aload_n 0, 1) := by decide +kernel
theorem dX11_look_30 : decode cX11_look 30 = .ok (.iload_n 1, 1) := by decide +kernel
theorem dX11_look_31 : decode cX11_look 31 = .ok (.invokevirtual 369, 3) := by decide +kernel
theorem dX11_look_34 : decode cX11_look 34 = .ok (.invokevirtual 372, 3) := by decide +kernel
theorem dX11_look_37 : decode cX11_look 37 = .ok (.istore_n 3, 1) := by decide +kernel
theorem dX11_look_38 : decode cX11_look 38 = .ok (.iload_n 2, 1) := by decide +kernel
theorem dX11_look_39 : decode cX11_look 39 = .ok (.ifCond .ne 7, 3) := by decide +kernel
theorem dX11_look_42 : decode cX11_look 42 = .ok (.iload_n 3, 1) := by decide +kernel
theorem dX11_look_43 : decode cX11_look 43 = .ok (.goto 20, 3) := by decide +kernel
theorem dX11_look_46 : decode cX11_look 46 = .ok (.iload_n 2, 1) := by decide +kernel
theorem dX11_look_47 : decode cX11_look 47 = .ok (.iconst 1, 1) := by decide +kernel
theorem dX11_look_48 : decode cX11_look 48 = .ok (.if_icmp .ne 11, 3) := by decide +kernel
theorem dX11_look_51 : decode cX11_look 51 = .ok (.aload_n 0, 1) := by decide +kernel
theorem dX11_look_52 : decode cX11_look 52 = .ok (.iload_n 1, 1) := by decide +kernel
theorem dX11_look_53 : decode cX11_look 53 = .ok (.invokevirtual 375, 3) := by decide +kernel
theorem dX11_look_56 : decode cX11_look 56 = .ok (.goto 7, 3) := by decide +kernel
theorem dX11_look_59 : decode cX11_look 59 = .ok (.aload_n 0, 1) := by decide +kernel
theorem dX11_look_60 : decode cX11_look 60 = .ok (.getfield 364, 3) := by decide +kernel
theorem dX11_look_63 : decode cX11_look 63 = .ok (.ireturn, 1) := by decide +kernel
theorem dX11_keeps_0 : decode cX11_keeps 0 = .ok (.aload_n 0, 1) := by decide +kernel
theorem dX11_keeps_1 : decode cX11_keeps 1 = .ok (.getfield 304, 3) := by decide +kernel
theorem dX11_keeps_4 : decode cX11_keeps 4 = .ok (.bipush 12, 2) := by decide +kernel
theorem dX11_keeps_6 : decode cX11_keeps 6 = .ok (.if_icmp .ne 43, 3) := by decide +kernel
theorem dX11_keeps_9 : decode cX11_keeps 9 = .ok (.iconst 0, 1) := by decide +kernel
theorem dX11_keeps_10 : decode cX11_keeps 10 = .ok (.istore_n 1, 1) := by decide +kernel
theorem dX11_keeps_11 : decode cX11_keeps 11 = .ok (.iload_n 1, 1) := by decide +kernel
theorem dX11_keeps_12 : decode cX11_keeps 12 = .ok (.sipush 1254, 3) := by decide +kernel
theorem dX11_keeps_15 : decode cX11_keeps 15 = .ok (.if_icmp .ge 24, 3) := by decide +kernel
theorem dX11_keeps_18 : decode cX11_keeps 18 = .ok (.aload_n 0, 1) := by decide +kernel
theorem dX11_keeps_19 : decode cX11_keeps 19 = .ok (.getfield 100, 3) := by decide +kernel
theorem dX11_keeps_22 : decode cX11_keeps 22 = .ok (.iload_n 1, 1) := by decide +kernel
theorem dX11_keeps_23 : decode cX11_keeps 23 = .ok (.aload_n 0, 1) := by decide +kernel
theorem dX11_keeps_24 : decode cX11_keeps 24 = .ok (.getfield 100, 3) := by decide +kernel
theorem dX11_keeps_27 : decode cX11_keeps 27 = .ok (.iload_n 1, 1) := by decide +kernel
theorem dX11_keeps_28 : decode cX11_keeps 28 = .ok (.bipush 114, 2) := by decide +kernel
theorem dX11_keeps_30 : decode cX11_keeps 30 = .ok (.iadd, 1) := by decide +kernel
theorem dX11_keeps_31 : decode cX11_keeps 31 = .ok (.iaload, 1) := by decide +kernel
theorem dX11_keeps_32 : decode cX11_keeps 32 = .ok (.iastore, 1) := by decide +kernel
theorem dX11_keeps_33 : decode cX11_keeps 33 = .ok (.iinc 1 1, 3) := by decide +kernel
theorem dX11_keeps_36 : decode cX11_keeps 36 = .ok (.goto (-25), 3) := by decide +kernel
theorem dX11_keeps_39 : decode cX11_keeps 39 = .ok (.aload_n 0, 1) := by decide +kernel
theorem dX11_keeps_40 : decode cX11_keeps 40 = .ok (.dup, 1) := by decide +kernel
theorem dX11_keeps_41 : decode cX11_keeps 41 = .ok (.getfield 304, 3) := by decide +kernel
theorem dX11_keeps_44 : decode cX11_keeps 44 = .ok (.iconst 1, 1) := by decide +kernel
theorem dX11_keeps_45 : decode cX11_keeps 45 = .ok (.isub, 1) := by decide +kernel
theorem dX11_keeps_46 : decode cX11_keeps 46 = .ok (.putfield 304, 3) := by decide +kernel
theorem dX11_keeps_49 : decode cX11_keeps 49 = .ok (.iconst 0, 1) := by decide +kernel
theorem dX11_keeps_50 : decode cX11_keeps 50 = .ok (.istore_n 1, 1) := by decide +kernel
theorem dX11_keeps_51 : decode cX11_keeps 51 = .ok (.iload_n 1, 1) := by decide +kernel
theorem dX11_keeps_52 : decode cX11_keeps 52 = .ok (.bipush 114, 2) := by decide +kernel
theorem dX11_keeps_54 : decode cX11_keeps 54 = .ok (.if_icmp .ge 29, 3) := by decide +kernel
theorem dX11_keeps_57 : decode cX11_keeps 57 = .ok (.aload_n 0, 1) := by decide +kernel
theorem dX11_keeps_58 : decode cX11_keeps 58 = .ok (.getfield 100, 3) := by decide +kernel
theorem dX11_keeps_61 : decode cX11_keeps 61 = .ok (.bipush 114, 2) := by decide +kernel
theorem dX11_keeps_63 : decode cX11_keeps 63 = .ok (.aload_n 0, 1) := by decide +kernel
theorem dX11_keeps_64 : decode cX11_keeps 64 = .ok (.getfield 304, 3) := by decide +kernel
theorem dX11_keeps_67 : decode cX11_keeps 67 = .ok (.imul, 1) := by decide +kernel
theorem dX11_keeps_68 : decode cX11_keeps 68 = .ok (.iload_n 1, 1) := by decide +kernel
theorem dX11_keeps_69 : decode cX11_keeps 69 = .ok (.iadd, 1) := by decide +kernel
theorem dX11_keeps_70 : decode cX11_keeps 70 = .ok (.aload_n 0, 1) := by decide +kernel
theorem dX11_keeps_71 : decode cX11_keeps 71 = .ok (.getfield 97, 3) := by decide +kernel
theorem dX11_keeps_74 : decode cX11_keeps 74 = .ok (.iload_n 1, 1) := by decide +kernel
theorem dX11_keeps_75 : decode cX11_keeps 75 = .ok (.iaload, 1) := by decide +kernel
theorem dX11_keeps_76 : decode cX11_keeps 76 = .ok (.iastore, 1) := by decide +kernel
theorem dX11_keeps_77 : decode cX11_keeps 77 = .ok (.iinc 1 1, 3) := by decide +kernel
theorem dX11_keeps_80 : decode cX11_keeps 80 = .ok (.goto (-29), 3) := by decide +kernel
theorem dX11_keeps_83 : decode cX11_keeps 83 = .ok (.aload_n 0, 1) := by decide +kernel
theorem dX11_keeps_84 : decode cX11_keeps 84 = .ok (.dup, 1) := by decide +kernel
theorem dX11_keeps_85 : decode cX11_keeps 85 = .ok (.getfield 304, 3) := by decide +kernel
theorem dX11_keeps_88 : decode cX11_keeps 88 = .ok (.iconst 1, 1) := by decide +kernel
theorem dX11_keeps_89 : decode cX11_keeps 89 = .ok (.iadd, 1) := by decide +kernel
theorem dX11_keeps_90 : decode cX11_keeps 90 = .ok (.putfield 304, 3) := by decide +kernel
theorem dX11_keeps_93 : decode cX11_keeps 93 = .ok (.return_, 1) := by decide +kernel
theorem dX11_logs_0 : decode cX11_logs 0 = .ok (.bipush 113, 2) := by decide +kernel
theorem dX11_logs_2 : decode cX11_logs 2 = .ok (.istore 5, 2) := by decide +kernel
theorem dX11_logs_4 : decode cX11_logs 4 = .ok (.iload 5, 2) := by decide +kernel
theorem dX11_logs_6 : decode cX11_logs 6 = .ok (.bipush 54, 2) := by decide +kernel
theorem dX11_logs_8 : decode cX11_logs 8 = .ok (.if_icmp .lt 25, 3) := by decide +kernel
theorem dX11_logs_11 : decode cX11_logs 11 = .ok (.aload_n 0, 1) := by decide +kernel
theorem dX11_logs_12 : decode cX11_logs 12 = .ok (.getfield 97, 3) := by decide +kernel
theorem dX11_logs_15 : decode cX11_logs 15 = .ok (.iload 5, 2) := by decide +kernel
theorem dX11_logs_17 : decode cX11_logs 17 = .ok (.aload_n 0, 1) := by decide +kernel
theorem dX11_logs_18 : decode cX11_logs 18 = .ok (.getfield 97, 3) := by decide +kernel
theorem dX11_logs_21 : decode cX11_logs 21 = .ok (.iload 5, 2) := by decide +kernel
theorem dX11_logs_23 : decode cX11_logs 23 = .ok (.iconst 4, 1) := by decide +kernel
theorem dX11_logs_24 : decode cX11_logs 24 = .ok (.isub, 1) := by decide +kernel
theorem dX11_logs_25 : decode cX11_logs 25 = .ok (.iaload, 1) := by decide +kernel
theorem dX11_logs_26 : decode cX11_logs 26 = .ok (.iastore, 1) := by decide +kernel
theorem dX11_logs_27 : decode cX11_logs 27 = .ok (.iinc 5 (-1), 3) := by decide +kernel
theorem dX11_logs_30 : decode cX11_logs 30 = .ok (.goto (-26), 3) := by decide +kernel
theorem dX11_logs_33 : decode cX11_logs 33 = .ok (.aload_n 0, 1) := by decide +kernel
theorem dX11_logs_34 : decode cX11_logs 34 = .ok (.getfield 97, 3) := by decide +kernel
theorem dX11_logs_37 : decode cX11_logs 37 = .ok (.bipush 50, 2) := by decide +kernel
theorem dX11_logs_39 : decode cX11_logs 39 = .ok (.iload_n 1, 1) := by decide +kernel
theorem dX11_logs_40 : decode cX11_logs 40 = .ok (.iastore, 1) := by decide +kernel
theorem dX11_logs_41 : decode cX11_logs 41 = .ok (.aload_n 0, 1) := by decide +kernel
theorem dX11_logs_42 : decode cX11_logs 42 = .ok (.getfield 97, 3) := by decide +kernel
theorem dX11_logs_45 : decode cX11_logs 45 = .ok (.bipush 51, 2) := by decide +kernel
theorem dX11_logs_47 : decode cX11_logs 47 = .ok (.iload_n 2, 1) := by decide +kernel
theorem dX11_logs_48 : decode cX11_logs 48 = .ok (.iastore, 1) := by decide +kernel
theorem dX11_logs_49 : decode cX11_logs 49 = .ok (.aload_n 0, 1) := by decide +kernel
theorem dX11_logs_50 : decode cX11_logs 50 = .ok (.getfield 97, 3) := by decide +kernel
theorem dX11_logs_53 : decode cX11_logs 53 = .ok (.bipush 52, 2) := by decide +kernel
theorem dX11_logs_55 : decode cX11_logs 55 = .ok (.iload_n 3, 1) := by decide +kernel
theorem dX11_logs_56 : decode cX11_logs 56 = .ok (.iastore, 1) := by decide +kernel
theorem dX11_logs_57 : decode cX11_logs 57 = .ok (.aload_n 0, 1) := by decide +kernel
theorem dX11_logs_58 : decode cX11_logs 58 = .ok (.getfield 97, 3) := by decide +kernel
theorem dX11_logs_61 : decode cX11_logs 61 = .ok (.bipush 53, 2) := by decide +kernel
theorem dX11_logs_63 : decode cX11_logs 63 = .ok (.iload 4, 2) := by decide +kernel
theorem dX11_logs_65 : decode cX11_logs 65 = .ok (.iastore, 1) := by decide +kernel
theorem dX11_logs_66 : decode cX11_logs 66 = .ok (.aload_n 0, 1) := by decide +kernel
theorem dX11_logs_67 : decode cX11_logs 67 = .ok (.getfield 97, 3) := by decide +kernel
theorem dX11_logs_70 : decode cX11_logs 70 = .ok (.bipush 49, 2) := by decide +kernel
theorem dX11_logs_72 : decode cX11_logs 72 = .ok (.iaload, 1) := by decide +kernel
theorem dX11_logs_73 : decode cX11_logs 73 = .ok (.bipush 16, 2) := by decide +kernel
theorem dX11_logs_75 : decode cX11_logs 75 = .ok (.if_icmp .ge 14, 3) := by decide +kernel
theorem dX11_logs_78 : decode cX11_logs 78 = .ok (.aload_n 0, 1) := by decide +kernel
theorem dX11_logs_79 : decode cX11_logs 79 = .ok (.getfield 97, 3) := by decide +kernel
theorem dX11_logs_82 : decode cX11_logs 82 = .ok (.bipush 49, 2) := by decide +kernel
theorem dX11_logs_84 : decode cX11_logs 84 = .ok (.dup2, 1) := by decide +kernel
theorem dX11_logs_85 : decode cX11_logs 85 = .ok (.iaload, 1) := by decide +kernel
theorem dX11_logs_86 : decode cX11_logs 86 = .ok (.iconst 1, 1) := by decide +kernel
theorem dX11_logs_87 : decode cX11_logs 87 = .ok (.iadd, 1) := by decide +kernel
theorem dX11_logs_88 : decode cX11_logs 88 = .ok (.iastore, 1) := by decide +kernel
theorem dX11_logs_89 : decode cX11_logs 89 = .ok (.return_, 1) := by decide +kernel
theorem dX11_forgets_0 : decode cX11_forgets 0 = .ok (.iload_n 1, 1) := by decide +kernel
theorem dX11_forgets_1 : decode cX11_forgets 1 = .ok (.istore_n 2, 1) := by decide +kernel
theorem dX11_forgets_2 : decode cX11_forgets 2 = .ok (.iload_n 2, 1) := by decide +kernel
theorem dX11_forgets_3 : decode cX11_forgets 3 = .ok (.bipush 8, 2) := by decide +kernel
theorem dX11_forgets_5 : decode cX11_forgets 5 = .ok (.if_icmp .ge 48, 3) := by decide +kernel
theorem dX11_forgets_8 : decode cX11_forgets 8 = .ok (.aload_n 0, 1) := by decide +kernel
theorem dX11_forgets_9 : decode cX11_forgets 9 = .ok (.getfield 97, 3) := by decide +kernel
theorem dX11_forgets_12 : decode cX11_forgets 12 = .ok (.iconst 1, 1) := by decide +kernel
theorem dX11_forgets_13 : decode cX11_forgets 13 = .ok (.iload_n 2, 1) := by decide +kernel
theorem dX11_forgets_14 : decode cX11_forgets 14 = .ok (.iadd, 1) := by decide +kernel
theorem dX11_forgets_15 : decode cX11_forgets 15 = .ok (.iconst 0, 1) := by decide +kernel
theorem dX11_forgets_16 : decode cX11_forgets 16 = .ok (.iastore, 1) := by decide +kernel
theorem dX11_forgets_17 : decode cX11_forgets 17 = .ok (.aload_n 0, 1) := by decide +kernel
theorem dX11_forgets_18 : decode cX11_forgets 18 = .ok (.getfield 97, 3) := by decide +kernel
theorem dX11_forgets_21 : decode cX11_forgets 21 = .ok (.bipush 9, 2) := by decide +kernel
theorem dX11_forgets_23 : decode cX11_forgets 23 = .ok (.iload_n 2, 1) := by decide +kernel
theorem dX11_forgets_24 : decode cX11_forgets 24 = .ok (.iadd, 1) := by decide +kernel
theorem dX11_forgets_25 : decode cX11_forgets 25 = .ok (.iconst 0, 1) := by decide +kernel
theorem dX11_forgets_26 : decode cX11_forgets 26 = .ok (.iastore, 1) := by decide +kernel
theorem dX11_forgets_27 : decode cX11_forgets 27 = .ok (.aload_n 0, 1) := by decide +kernel
theorem dX11_forgets_28 : decode cX11_forgets 28 = .ok (.getfield 97, 3) := by decide +kernel
theorem dX11_forgets_31 : decode cX11_forgets 31 = .ok (.bipush 17, 2) := by decide +kernel
theorem dX11_forgets_33 : decode cX11_forgets 33 = .ok (.iload_n 2, 1) := by decide +kernel
theorem dX11_forgets_34 : decode cX11_forgets 34 = .ok (.iadd, 1) := by decide +kernel
theorem dX11_forgets_35 : decode cX11_forgets 35 = .ok (.iconst 0, 1) := by decide +kernel
theorem dX11_forgets_36 : decode cX11_forgets 36 = .ok (.iastore, 1) := by decide +kernel
theorem dX11_forgets_37 : decode cX11_forgets 37 = .ok (.aload_n 0, 1) := by decide +kernel
theorem dX11_forgets_38 : decode cX11_forgets 38 = .ok (.getfield 97, 3) := by decide +kernel
theorem dX11_forgets_41 : decode cX11_forgets 41 = .ok (.bipush 25, 2) := by decide +kernel
theorem dX11_forgets_43 : decode cX11_forgets 43 = .ok (.iload_n 2, 1) := by decide +kernel
theorem dX11_forgets_44 : decode cX11_forgets 44 = .ok (.iadd, 1) := by decide +kernel
theorem dX11_forgets_45 : decode cX11_forgets 45 = .ok (.iconst 0, 1) := by decide +kernel
theorem dX11_forgets_46 : decode cX11_forgets 46 = .ok (.iastore, 1) := by decide +kernel
theorem dX11_forgets_47 : decode cX11_forgets 47 = .ok (.iinc 2 1, 3) := by decide +kernel
theorem dX11_forgets_50 : decode cX11_forgets 50 = .ok (.goto (-48), 3) := by decide +kernel
theorem dX11_forgets_53 : decode cX11_forgets 53 = .ok (.aload_n 0, 1) := by decide +kernel
theorem dX11_forgets_54 : decode cX11_forgets 54 = .ok (.getfield 97, 3) := by decide +kernel
theorem dX11_forgets_57 : decode cX11_forgets 57 = .ok (.iconst 0, 1) := by decide +kernel
theorem dX11_forgets_58 : decode cX11_forgets 58 = .ok (.iload_n 1, 1) := by decide +kernel
theorem dX11_forgets_59 : decode cX11_forgets 59 = .ok (.iastore, 1) := by decide +kernel
theorem dX11_forgets_60 : decode cX11_forgets 60 = .ok (.return_, 1) := by decide +kernel
theorem dX11_reviewed_0 : decode cX11_reviewed 0 = .ok (.aload_n 0, 1) := by decide +kernel
theorem dX11_reviewed_1 : decode cX11_reviewed 1 = .ok (.iload_n 1, 1) := by decide +kernel
theorem dX11_reviewed_2 : decode cX11_reviewed 2 = .ok (.aload_n 0, 1) := by decide +kernel
theorem dX11_reviewed_3 : decode cX11_reviewed 3 = .ok (.getfield 97, 3) := by decide +kernel
theorem dX11_reviewed_6 : decode cX11_reviewed 6 = .ok (.iconst 1, 1) := by decide +kernel
theorem dX11_reviewed_7 : decode cX11_reviewed 7 = .ok (.iload_n 1, 1) := by decide +kernel
theorem dX11_reviewed_8 : decode cX11_reviewed 8 = .ok (.iadd, 1) := by decide +kernel
theorem dX11_reviewed_9 : decode cX11_reviewed 9 = .ok (.iaload, 1) := by decide +kernel
theorem dX11_reviewed_10 : decode cX11_reviewed 10 = .ok (.invokevirtual 372, 3) := by decide +kernel
theorem dX11_reviewed_13 : decode cX11_reviewed 13 = .ok (.istore_n 3, 1) := by decide +kernel
theorem dX11_reviewed_14 : decode cX11_reviewed 14 = .ok (.aload_n 0, 1) := by decide +kernel
theorem dX11_reviewed_15 : decode cX11_reviewed 15 = .ok (.getfield 97, 3) := by decide +kernel
theorem dX11_reviewed_18 : decode cX11_reviewed 18 = .ok (.bipush 9, 2) := by decide +kernel
theorem dX11_reviewed_20 : decode cX11_reviewed 20 = .ok (.iload_n 1, 1) := by decide +kernel
theorem dX11_reviewed_21 : decode cX11_reviewed 21 = .ok (.iadd, 1) := by decide +kernel
theorem dX11_reviewed_22 : decode cX11_reviewed 22 = .ok (.iconst 1, 1) := by decide +kernel
theorem dX11_reviewed_23 : decode cX11_reviewed 23 = .ok (.iastore, 1) := by decide +kernel
theorem dX11_reviewed_24 : decode cX11_reviewed 24 = .ok (.aload_n 0, 1) := by decide +kernel
theorem dX11_reviewed_25 : decode cX11_reviewed 25 = .ok (.getfield 97, 3) := by decide +kernel
