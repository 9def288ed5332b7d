theorem dX3_readInput_19 : decode cX3_readInput 19 = .ok (.sipush (-1003), 3) := by decide +kernel
theorem dX3_readInput_22 : decode cX3_readInput 22 = .ok (.ireturn, 1) := by decide +kernel
theorem dX3_readInput_23 : decode cX3_readInput 23 = .ok (.aload_n 0, 1) := by decide +kernel
theorem dX3_readInput_24 : decode cX3_readInput 24 = .ok (.invokevirtual 121, 3) := by decide +kernel
theorem dX3_readInput_27 : decode cX3_readInput 27 = .ok (.istore_n 2, 1) := by decide +kernel
theorem dX3_readInput_28 : decode cX3_readInput 28 = .ok (.iload_n 2, 1) := by decide +kernel
theorem dX3_readInput_29 : decode cX3_readInput 29 = .ok (.ifCond .ge 5, 3) := by decide +kernel
theorem dX3_readInput_32 : decode cX3_readInput 32 = .ok (.iload_n 2, 1) := by decide +kernel
theorem dX3_readInput_33 : decode cX3_readInput 33 = .ok (.ireturn, 1) := by decide +kernel
theorem dX3_readInput_34 : decode cX3_readInput 34 = .ok (.aload_n 0, 1) := by decide +kernel
theorem dX3_readInput_35 : decode cX3_readInput 35 = .ok (.getfield 7, 3) := by decide +kernel
theorem dX3_readInput_38 : decode cX3_readInput 38 = .ok (.iconst 2, 1) := by decide +kernel
theorem dX3_readInput_39 : decode cX3_readInput 39 = .ok (.iload_n 1, 1) := by decide +kernel
theorem dX3_readInput_40 : decode cX3_readInput 40 = .ok (.imul, 1) := by decide +kernel
theorem dX3_readInput_41 : decode cX3_readInput 41 = .ok (.aload_n 0, 1) := by decide +kernel
theorem dX3_readInput_42 : decode cX3_readInput 42 = .ok (.getfield 111, 3) := by decide +kernel
theorem dX3_readInput_45 : decode cX3_readInput 45 = .ok (.lastore, 1) := by decide +kernel
theorem dX3_readInput_46 : decode cX3_readInput 46 = .ok (.aload_n 0, 1) := by decide +kernel
theorem dX3_readInput_47 : decode cX3_readInput 47 = .ok (.getfield 7, 3) := by decide +kernel
theorem dX3_readInput_50 : decode cX3_readInput 50 = .ok (.iconst 2, 1) := by decide +kernel
theorem dX3_readInput_51 : decode cX3_readInput 51 = .ok (.iload_n 1, 1) := by decide +kernel
theorem dX3_readInput_52 : decode cX3_readInput 52 = .ok (.imul, 1) := by decide +kernel
theorem dX3_readInput_53 : decode cX3_readInput 53 = .ok (.iconst 1, 1) := by decide +kernel
theorem dX3_readInput_54 : decode cX3_readInput 54 = .ok (.iadd, 1) := by decide +kernel
theorem dX3_readInput_55 : decode cX3_readInput 55 = .ok (.aload_n 0, 1) := by decide +kernel
theorem dX3_readInput_56 : decode cX3_readInput 56 = .ok (.getfield 114, 3) := by decide +kernel
theorem dX3_readInput_59 : decode cX3_readInput 59 = .ok (.lastore, 1) := by decide +kernel
theorem dX3_readInput_60 : decode cX3_readInput 60 = .ok (.aload_n 0, 1) := by decide +kernel
theorem dX3_readInput_61 : decode cX3_readInput 61 = .ok (.getfield 29, 3) := by decide +kernel
theorem dX3_readInput_64 : decode cX3_readInput 64 = .ok (.iconst 2, 1) := by decide +kernel
theorem dX3_readInput_65 : decode cX3_readInput 65 = .ok (.iload_n 1, 1) := by decide +kernel
theorem dX3_readInput_66 : decode cX3_readInput 66 = .ok (.imul, 1) := by decide +kernel
theorem dX3_readInput_67 : decode cX3_readInput 67 = .ok (.aload_n 0, 1) := by decide +kernel
theorem dX3_readInput_68 : decode cX3_readInput 68 = .ok (.getfield 111, 3) := by decide +kernel
theorem dX3_readInput_71 : decode cX3_readInput 71 = .ok (.lastore, 1) := by decide +kernel
theorem dX3_readInput_72 : decode cX3_readInput 72 = .ok (.aload_n 0, 1) := by decide +kernel
theorem dX3_readInput_73 : decode cX3_readInput 73 = .ok (.getfield 29, 3) := by decide +kernel
theorem dX3_readInput_76 : decode cX3_readInput 76 = .ok (.iconst 2, 1) := by decide +kernel
theorem dX3_readInput_77 : decode cX3_readInput 77 = .ok (.iload_n 1, 1) := by decide +kernel
theorem dX3_readInput_78 : decode cX3_readInput 78 = .ok (.imul, 1) := by decide +kernel
theorem dX3_readInput_79 : decode cX3_readInput 79 = .ok (.iconst 1, 1) := by decide +kernel
theorem dX3_readInput_80 : decode cX3_readInput 80 = .ok (.iadd, 1) := by decide +kernel
theorem dX3_readInput_81 : decode cX3_readInput 81 = .ok (.aload_n 0, 1) := by decide +kernel
theorem dX3_readInput_82 : decode cX3_readInput 82 = .ok (.getfield 114, 3) := by decide +kernel
theorem dX3_readInput_85 : decode cX3_readInput 85 = .ok (.lastore, 1) := by decide +kernel
theorem dX3_readInput_86 : decode cX3_readInput 86 = .ok (.iconst 1, 1) := by decide +kernel
theorem dX3_readInput_87 : decode cX3_readInput 87 = .ok (.ireturn, 1) := by decide +kernel
theorem dX3_noPair_0 : decode cX3_noPair 0 = .ok (.aload_n 0, 1) := by decide +kernel
theorem dX3_noPair_1 : decode cX3_noPair 1 = .ok (.iload_n 1, 1) := by decide +kernel
theorem dX3_noPair_2 : decode cX3_noPair 2 = .ok (.invokevirtual 117, 3) := by decide +kernel
theorem dX3_noPair_5 : decode cX3_noPair 5 = .ok (.ifCond .ne 16, 3) := by decide +kernel
theorem dX3_noPair_8 : decode cX3_noPair 8 = .ok (.aload_n 0, 1) := by decide +kernel
theorem dX3_noPair_9 : decode cX3_noPair 9 = .ok (.iload_n 2, 1) := by decide +kernel
theorem dX3_noPair_10 : decode cX3_noPair 10 = .ok (.invokevirtual 117, 3) := by decide +kernel
theorem dX3_noPair_13 : decode cX3_noPair 13 = .ok (.ifCond .ne 8, 3) := by decide +kernel
theorem dX3_noPair_16 : decode cX3_noPair 16 = .ok (.iload_n 1, 1) := by decide +kernel
theorem dX3_noPair_17 : decode cX3_noPair 17 = .ok (.iload_n 2, 1) := by decide +kernel
theorem dX3_noPair_18 : decode cX3_noPair 18 = .ok (.if_icmp .ne 7, 3) := by decide +kernel
theorem dX3_noPair_21 : decode cX3_noPair 21 = .ok (.iconst 1, 1) := by decide +kernel
theorem dX3_noPair_22 : decode cX3_noPair 22 = .ok (.goto 4, 3) := by decide +kernel
theorem dX3_noPair_25 : decode cX3_noPair 25 = .ok (.iconst 0, 1) := by decide +kernel
theorem dX3_noPair_26 : decode cX3_noPair 26 = .ok (.ireturn, 1) := by decide +kernel
theorem dX3_readLie_0 : decode cX3_readLie 0 = .ok (.aload_n 0, 1) := by decide +kernel
theorem dX3_readLie_1 : decode cX3_readLie 1 = .ok (.iload_n 1, 1) := by decide +kernel
theorem dX3_readLie_2 : decode cX3_readLie 2 = .ok (.iload_n 2, 1) := by decide +kernel
theorem dX3_readLie_3 : decode cX3_readLie 3 = .ok (.invokevirtual 125, 3) := by decide +kernel
theorem dX3_readLie_6 : decode cX3_readLie 6 = .ok (.ifCond .eq 7, 3) := by decide +kernel
theorem dX3_readLie_9 : decode cX3_readLie 9 = .ok (.sipush (-1001), 3) := by decide +kernel
theorem dX3_readLie_12 : decode cX3_readLie 12 = .ok (.ireturn, 1) := by decide +kernel
theorem dX3_readLie_13 : decode cX3_readLie 13 = .ok (.aload_n 0, 1) := by decide +kernel
theorem dX3_readLie_14 : decode cX3_readLie 14 = .ok (.invokevirtual 121, 3) := by decide +kernel
theorem dX3_readLie_17 : decode cX3_readLie 17 = .ok (.istore_n 3, 1) := by decide +kernel
theorem dX3_readLie_18 : decode cX3_readLie 18 = .ok (.iload_n 3, 1) := by decide +kernel
theorem dX3_readLie_19 : decode cX3_readLie 19 = .ok (.ifCond .ge 5, 3) := by decide +kernel
theorem dX3_readLie_22 : decode cX3_readLie 22 = .ok (.iload_n 3, 1) := by decide +kernel
theorem dX3_readLie_23 : decode cX3_readLie 23 = .ok (.ireturn, 1) := by decide +kernel
theorem dX3_readLie_24 : decode cX3_readLie 24 = .ok (.aload_n 0, 1) := by decide +kernel
theorem dX3_readLie_25 : decode cX3_readLie 25 = .ok (.getfield 20, 3) := by decide +kernel
theorem dX3_readLie_28 : decode cX3_readLie 28 = .ok (.bipush 10, 2) := by decide +kernel
theorem dX3_readLie_30 : decode cX3_readLie 30 = .ok (.iload_n 1, 1) := by decide +kernel
theorem dX3_readLie_31 : decode cX3_readLie 31 = .ok (.imul, 1) := by decide +kernel
theorem dX3_readLie_32 : decode cX3_readLie 32 = .ok (.iload_n 2, 1) := by decide +kernel
theorem dX3_readLie_33 : decode cX3_readLie 33 = .ok (.iadd, 1) := by decide +kernel
theorem dX3_readLie_34 : decode cX3_readLie 34 = .ok (.aload_n 0, 1) := by decide +kernel
theorem dX3_readLie_35 : decode cX3_readLie 35 = .ok (.getfield 111, 3) := by decide +kernel
theorem dX3_readLie_38 : decode cX3_readLie 38 = .ok (.lastore, 1) := by decide +kernel
theorem dX3_readLie_39 : decode cX3_readLie 39 = .ok (.aload_n 0, 1) := by decide +kernel
theorem dX3_readLie_40 : decode cX3_readLie 40 = .ok (.getfield 23, 3) := by decide +kernel
theorem dX3_readLie_43 : decode cX3_readLie 43 = .ok (.bipush 10, 2) := by decide +kernel
theorem dX3_readLie_45 : decode cX3_readLie 45 = .ok (.iload_n 1, 1) := by decide +kernel
theorem dX3_readLie_46 : decode cX3_readLie 46 = .ok (.imul, 1) := by decide +kernel
theorem dX3_readLie_47 : decode cX3_readLie 47 = .ok (.iload_n 2, 1) := by decide +kernel
theorem dX3_readLie_48 : decode cX3_readLie 48 = .ok (.iadd, 1) := by decide +kernel
theorem dX3_readLie_49 : decode cX3_readLie 49 = .ok (.aload_n 0, 1) := by decide +kernel
theorem dX3_readLie_50 : decode cX3_readLie 50 = .ok (.getfield 114, 3) := by decide +kernel
theorem dX3_readLie_53 : decode cX3_readLie 53 = .ok (.lastore, 1) := by decide +kernel
theorem dX3_readLie_54 : decode cX3_readLie 54 = .ok (.iconst 1, 1) := by decide +kernel
theorem dX3_readLie_55 : decode cX3_readLie 55 = .ok (.ireturn, 1) := by decide +kernel
theorem dX3_setFaulty_0 : decode cX3_setFaulty 0 = .ok (.aload_n 0, 1) := by decide +kernel
theorem dX3_setFaulty_1 : decode cX3_setFaulty 1 = .ok (.iload_n 1, 1) := by decide +kernel
theorem dX3_setFaulty_2 : decode cX3_setFaulty 2 = .ok (.invokevirtual 117, 3) := by decide +kernel
theorem dX3_setFaulty_5 : decode cX3_setFaulty 5 = .ok (.ifCond .eq 7, 3) := by decide +kernel
theorem dX3_setFaulty_8 : decode cX3_setFaulty 8 = .ok (.sipush (-1001), 3) := by decide +kernel
theorem dX3_setFaulty_11 : decode cX3_setFaulty 11 = .ok (.ireturn, 1) := by decide +kernel
theorem dX3_setFaulty_12 : decode cX3_setFaulty 12 = .ok (.iload_n 2, 1) := by decide +kernel
theorem dX3_setFaulty_13 : decode cX3_setFaulty 13 = .ok (.i2l, 1) := by decide +kernel
theorem dX3_setFaulty_14 : decode cX3_setFaulty 14 = .ok (.lconst 1, 1) := by decide +kernel
theorem dX3_setFaulty_15 : decode cX3_setFaulty 15 = .ok (.ldc2_w 129, 3) := by decide +kernel
theorem dX3_setFaulty_18 : decode cX3_setFaulty 18 = .ok (.invokestatic 71, 3) := by decide +kernel
theorem dX3_setFaulty_21 : decode cX3_setFaulty 21 = .ok (.ifCond .eq 46, 3) := by decide +kernel
theorem dX3_setFaulty_24 : decode cX3_setFaulty 24 = .ok (.iload_n 3, 1) := by decide +kernel
theorem dX3_setFaulty_25 : decode cX3_setFaulty 25 = .ok (.i2l, 1) := by decide +kernel
theorem dX3_setFaulty_26 : decode cX3_setFaulty 26 = .ok (.ldc2_w 105, 3) := by decide +kernel
theorem dX3_setFaulty_29 : decode cX3_setFaulty 29 = .ok (.ldc2_w 103, 3) := by decide +kernel
theorem dX3_setFaulty_32 : decode cX3_setFaulty 32 = .ok (.invokestatic 71, 3) := by decide +kernel
theorem dX3_setFaulty_35 : decode cX3_setFaulty 35 = .ok (.ifCond .eq 32, 3) := by decide +kernel
theorem dX3_setFaulty_38 : decode cX3_setFaulty 38 = .ok (.iload 4, 2) := by decide +kernel
theorem dX3_setFaulty_40 : decode cX3_setFaulty 40 = .ok (.i2l, 1) := by decide +kernel
theorem dX3_setFaulty_41 : decode cX3_setFaulty 41 = .ok (.lconst 1, 1) := by decide +kernel
theorem dX3_setFaulty_42 : decode cX3_setFaulty 42 = .ok (.ldc2_w 103, 3) := by decide +kernel
theorem dX3_setFaulty_45 : decode cX3_setFaulty 45 = .ok (.invokestatic 71, 3) := by decide +kernel
theorem dX3_setFaulty_48 : decode cX3_setFaulty 48 = .ok (.ifCond .eq 19, 3) := by decide +kernel
theorem dX3_setFaulty_51 : decode cX3_setFaulty 51 = .ok (.iload_n 3, 1) := by decide +kernel
theorem dX3_setFaulty_52 : decode cX3_setFaulty 52 = .ok (.i2l, 1) := by decide +kernel
theorem dX3_setFaulty_53 : decode cX3_setFaulty 53 = .ok (.aload_n 0, 1) := by decide +kernel
theorem dX3_setFaulty_54 : decode cX3_setFaulty 54 = .ok (.getfield 57, 3) := by decide +kernel
theorem dX3_setFaulty_57 : decode cX3_setFaulty 57 = .ok (.lmul, 1) := by decide +kernel
theorem dX3_setFaulty_58 : decode cX3_setFaulty 58 = .ok (.iload 4, 2) := by decide +kernel
theorem dX3_setFaulty_60 : decode cX3_setFaulty 60 = .ok (.i2l, 1) := by decide +kernel
theorem dX3_setFaulty_61 : decode cX3_setFaulty 61 = .ok (.lrem, 1) := by decide +kernel
theorem dX3_setFaulty_62 : decode cX3_setFaulty 62 = .ok (.lconst 0, 1) := by decide +kernel
theorem dX3_setFaulty_63 : decode cX3_setFaulty 63 = .ok (.lcmp, 1) := by decide +kernel
theorem dX3_setFaulty_64 : decode cX3_setFaulty 64 = .ok (.ifCond .eq 7, 3) := by decide +kernel
theorem dX3_setFaulty_67 : decode cX3_setFaulty 67 = .ok (.sipush (-1002), 3) := by decide +kernel
theorem dX3_setFaulty_70 : decode cX3_setFaulty 70 = .ok (.ireturn, 1) := by decide +kernel
theorem dX3_setFaulty_71 : decode cX3_setFaulty 71 = .ok (.aload_n 0, 1) := by decide +kernel
theorem dX3_setFaulty_72 : decode cX3_setFaulty 72 = .ok (.getfield 64, 3) := by decide +kernel
theorem dX3_setFaulty_75 : decode cX3_setFaulty 75 = .ok (.ifCond .le 7, 3) := by decide +kernel
theorem dX3_setFaulty_78 : decode cX3_setFaulty 78 = .ok (.sipush (-1003), 3) := by decide +kernel
theorem dX3_setFaulty_81 : decode cX3_setFaulty 81 = .ok (.ireturn, 1) := by decide +kernel
theorem dX3_setFaulty_82 : decode cX3_setFaulty 82 = .ok (.aload_n 0, 1) := by decide +kernel
theorem dX3_setFaulty_83 : decode cX3_setFaulty 83 = .ok (.getfield 13, 3) := by decide +kernel
theorem dX3_setFaulty_86 : decode cX3_setFaulty 86 = .ok (.iload_n 1, 1) := by decide +kernel
theorem dX3_setFaulty_87 : decode cX3_setFaulty 87 = .ok (.iaload, 1) := by decide +kernel
theorem dX3_setFaulty_88 : decode cX3_setFaulty 88 = .ok (.istore 5, 2) := by decide +kernel
theorem dX3_setFaulty_90 : decode cX3_setFaulty 90 = .ok (.aload_n 0, 1) := by decide +kernel
theorem dX3_setFaulty_91 : decode cX3_setFaulty 91 = .ok (.getfield 13, 3) := by decide +kernel
theorem dX3_setFaulty_94 : decode cX3_setFaulty 94 = .ok (.iload_n 1, 1) := by decide +kernel
theorem dX3_setFaulty_95 : decode cX3_setFaulty 95 = .ok (.iload_n 2, 1) := by decide +kernel
theorem dX3_setFaulty_96 : decode cX3_setFaulty 96 = .ok (.iastore, 1) := by decide +kernel
theorem dX3_setFaulty_97 : decode cX3_setFaulty 97 = .ok (.aload_n 0, 1) := by decide +kernel
theorem dX3_setFaulty_98 : decode cX3_setFaulty 98 = .ok (.getfield 17, 3) := by decide +kernel
theorem dX3_setFaulty_101 : decode cX3_setFaulty 101 = .ok (.iload_n 1, 1) := by decide +kernel
theorem dX3_setFaulty_102 : decode cX3_setFaulty 102 = .ok (.iload_n 3, 1) := by decide +kernel
theorem dX3_setFaulty_103 : decode cX3_setFaulty 103 = .ok (.i2l, 1) := by decide +kernel
theorem dX3_setFaulty_104 : decode cX3_setFaulty 104 = .ok (.aload_n 0, 1) := by decide +kernel
theorem dX3_setFaulty_105 : decode cX3_setFaulty 105 = .ok (.getfield 57, 3) := by decide +kernel
theorem dX3_setFaulty_108 : decode cX3_setFaulty 108 = .ok (.lmul, 1) := by decide +kernel
theorem dX3_setFaulty_109 : decode cX3_setFaulty 109 = .ok (.iload 4, 2) := by decide +kernel
theorem dX3_setFaulty_111 : decode cX3_setFaulty 111 = .ok (.i2l, 1) := by decide +kernel
theorem dX3_setFaulty_112 : decode cX3_setFaulty 112 = .ok (.ldiv, 1) := by decide +kernel
theorem dX3_setFaulty_113 : decode cX3_setFaulty 113 = .ok (.lastore, 1) := by decide +kernel
theorem dX3_setFaulty_114 : decode cX3_setFaulty 114 = .ok (.iload 5, 2) := by decide +kernel
theorem dX3_setFaulty_116 : decode cX3_setFaulty 116 = .ok (.ireturn, 1) := by decide +kernel
theorem dX3_setCorrect_0 : decode cX3_setCorrect 0 = .ok (.aload_n 0, 1) := by decide +kernel
theorem dX3_setCorrect_1 : decode cX3_setCorrect 1 = .ok (.iload_n 1, 1) := by decide +kernel
theorem dX3_setCorrect_2 : decode cX3_setCorrect 2 = .ok (.invokevirtual 117, 3) := by decide +kernel
theorem dX3_setCorrect_5 : decode cX3_setCorrect 5 = .ok (.ifCond .eq 7, 3) := by decide +kernel
theorem dX3_setCorrect_8 : decode cX3_setCorrect 8 = .ok (.sipush (-1001), 3) := by decide +kernel
theorem dX3_setCorrect_11 : decode cX3_setCorrect 11 = .ok (.ireturn, 1) := by decide +kernel
theorem dX3_setCorrect_12 : decode cX3_setCorrect 12 = .ok (.aload_n 0, 1) := by decide +kernel
theorem dX3_setCorrect_13 : decode cX3_setCorrect 13 = .ok (.getfield 64, 3) := by decide +kernel
theorem dX3_setCorrect_16 : decode cX3_setCorrect 16 = .ok (.ifCond .le 7, 3) := by decide +kernel
theorem dX3_setCorrect_19 : decode cX3_setCorrect 19 = .ok (.sipush (-1003), 3) := by decide +kernel
theorem dX3_setCorrect_22 : decode cX3_setCorrect 22 = .ok (.ireturn, 1) := by decide +kernel
theorem dX3_setCorrect_23 : decode cX3_setCorrect 23 = .ok (.aload_n 0, 1) := by decide +kernel
theorem dX3_setCorrect_24 : decode cX3_setCorrect 24 = .ok (.getfield 13, 3) := by decide +kernel
theorem dX3_setCorrect_27 : decode cX3_setCorrect 27 = .ok (.iload_n 1, 1) := by decide +kernel
theorem dX3_setCorrect_28 : decode cX3_setCorrect 28 = .ok (.iaload, 1) := by decide +kernel
theorem dX3_setCorrect_29 : decode cX3_setCorrect 29 = .ok (.istore_n 2, 1) := by decide +kernel
theorem dX3_setCorrect_30 : decode cX3_setCorrect 30 = .ok (.aload_n 0, 1) := by decide +kernel
theorem dX3_setCorrect_31 : decode cX3_setCorrect 31 = .ok (.getfield 13, 3) := by decide +kernel
theorem dX3_setCorrect_34 : decode cX3_setCorrect 34 = .ok (.iload_n 1, 1) := by decide +kernel
theorem dX3_setCorrect_35 : decode cX3_setCorrect 35 = .ok (.iconst 0, 1) := by decide +kernel
theorem dX3_setCorrect_36 : decode cX3_setCorrect 36 = .ok (.iastore, 1) := by decide +kernel
theorem dX3_setCorrect_37 : decode cX3_setCorrect 37 = .ok (.iload_n 2, 1) := by decide +kernel
theorem dX3_setCorrect_38 : decode cX3_setCorrect 38 = .ok (.ireturn, 1) := by decide +kernel
theorem dX3_setLink_0 : decode cX3_setLink 0 = .ok (.aload_n 0, 1) := by decide +kernel
theorem dX3_setLink_1 : decode cX3_setLink 1 = .ok (.iload_n 1, 1) := by decide +kernel
theorem dX3_setLink_2 : decode cX3_setLink 2 = .ok (.iload_n 2, 1) := by decide +kernel
theorem dX3_setLink_3 : decode cX3_setLink 3 = .ok (.invokevirtual 125, 3) := by decide +kernel
theorem dX3_setLink_6 : decode cX3_setLink 6 = .ok (.ifCond .eq 7, 3) := by decide +kernel
theorem dX3_setLink_9 : decode cX3_setLink 9 = .ok (.sipush (-1001), 3) := by decide +kernel
theorem dX3_setLink_12 : decode cX3_setLink 12 = .ok (.ireturn, 1) := by decide +kernel
theorem dX3_setLink_13 : decode cX3_setLink 13 = .ok (.iload_n 3, 1) := by decide +kernel
theorem dX3_setLink_14 : decode cX3_setLink 14 = .ok (.i2l, 1) := by decide +kernel
theorem dX3_setLink_15 : decode cX3_setLink 15 = .ok (.ldc2_w 131, 3) := by decide +kernel
theorem dX3_setLink_18 : decode cX3_setLink 18 = .ok (.ldc2_w 75, 3) := by decide +kernel
theorem dX3_setLink_21 : decode cX3_setLink 21 = .ok (.invokestatic 71, 3) := by decide +kernel
theorem dX3_setLink_24 : decode cX3_setLink 24 = .ok (.ifCond .ne 7, 3) := by decide +kernel
theorem dX3_setLink_27 : decode cX3_setLink 27 = .ok (.sipush (-1002), 3) := by decide +kernel
theorem dX3_setLink_30 : decode cX3_setLink 30 = .ok (.ireturn, 1) := by decide +kernel
theorem dX3_setLink_31 : decode cX3_setLink 31 = .ok (.aload_n 0, 1) := by decide +kernel
theorem dX3_setLink_32 : decode cX3_setLink 32 = .ok (.getfield 26, 3) := by decide +kernel
theorem dX3_setLink_35 : decode cX3_setLink 35 = .ok (.bipush 10, 2) := by decide +kernel
theorem dX3_setLink_37 : decode cX3_setLink 37 = .ok (.iload_n 1, 1) := by decide +kernel
theorem dX3_setLink_38 : decode cX3_setLink 38 = .ok (.imul, 1) := by decide +kernel
theorem dX3_setLink_39 : decode cX3_setLink 39 = .ok (.iload_n 2, 1) := by decide +kernel
theorem dX3_setLink_40 : decode cX3_setLink 40 = .ok (.iadd, 1) := by decide +kernel
theorem dX3_setLink_41 : decode cX3_setLink 41 = .ok (.iaload, 1) := by decide +kernel
theorem dX3_setLink_42 : decode cX3_setLink 42 = .ok (.istore 4, 2) := by decide +kernel
theorem dX3_setLink_44 : decode cX3_setLink 44 = .ok (.aload_n 0, 1) := by decide +kernel
theorem dX3_setLink_45 : decode cX3_setLink 45 = .ok (.getfield 26, 3) := by decide +kernel
theorem dX3_setLink_48 : decode cX3_setLink 48 = .ok (.bipush 10, 2) := by decide +kernel
theorem dX3_setLink_50 : decode cX3_setLink 50 = .ok (.iload_n 1, 1) := by decide +kernel
theorem dX3_setLink_51 : decode cX3_setLink 51 = .ok (.imul, 1) := by decide +kernel
theorem dX3_setLink_52 : decode cX3_setLink 52 = .ok (.iload_n 2, 1) := by decide +kernel
theorem dX3_setLink_53 : decode cX3_setLink 53 = .ok (.iadd, 1) := by decide +kernel
theorem dX3_setLink_54 : decode cX3_setLink 54 = .ok (.iload_n 3, 1) := by decide +kernel
theorem dX3_setLink_55 : decode cX3_setLink 55 = .ok (.iastore, 1) := by decide +kernel
theorem dX3_setLink_56 : decode cX3_setLink 56 = .ok (.iload 4, 2) := by decide +kernel
theorem dX3_setLink_58 : decode cX3_setLink 58 = .ok (.ireturn, 1) := by decide +kernel
theorem dX3_setRule_0 : decode cX3_setRule 0 = .ok (.iload_n 1, 1) := by decide +kernel
theorem dX3_setRule_1 : decode cX3_setRule 1 = .ok (.i2l, 1) := by decide +kernel
theorem dX3_setRule_2 : decode cX3_setRule 2 = .ok (.lconst 0, 1) := by decide +kernel
theorem dX3_setRule_3 : decode cX3_setRule 3 = .ok (.ldc2_w 75, 3) := by decide +kernel
theorem dX3_setRule_6 : decode cX3_setRule 6 = .ok (.invokestatic 71, 3) := by decide +kernel
theorem dX3_setRule_9 : decode cX3_setRule 9 = .ok (.ifCond .ne 7, 3) := by decide +kernel
theorem dX3_setRule_12 : decode cX3_setRule 12 = .ok (.sipush (-1002), 3) := by decide +kernel
theorem dX3_setRule_15 : decode cX3_setRule 15 = .ok (.ireturn, 1) := by decide +kernel
theorem dX3_setRule_16 : decode cX3_setRule 16 = .ok (.aload_n 0, 1) := by decide +kernel
theorem dX3_setRule_17 : decode cX3_setRule 17 = .ok (.getfield 61, 3) := by decide +kernel
theorem dX3_setRule_20 : decode cX3_setRule 20 = .ok (.istore_n 2, 1) := by decide +kernel
theorem dX3_setRule_21 : decode cX3_setRule 21 = .ok (.aload_n 0, 1) := by decide +kernel
theorem dX3_setRule_22 : decode cX3_setRule 22 = .ok (.iload_n 1, 1) := by decide +kernel
theorem dX3_setRule_23 : decode cX3_setRule 23 = .ok (.putfield 61, 3) := by decide +kernel
theorem dX3_setRule_26 : decode cX3_setRule 26 = .ok (.iload_n 2, 1) := by decide +kernel
theorem dX3_setRule_27 : decode cX3_setRule 27 = .ok (.ireturn, 1) := by decide +kernel
theorem dX3_faulty_0 : decode cX3_faulty 0 = .ok (.iconst 0, 1) := by decide +kernel
theorem dX3_faulty_1 : decode cX3_faulty 1 = .ok (.istore_n 1, 1) := by decide +kernel
theorem dX3_faulty_2 : decode cX3_faulty 2 = .ok (.iconst 0, 1) := by decide +kernel
theorem dX3_faulty_3 : decode cX3_faulty 3 = .ok (.istore_n 2, 1) := by decide +kernel
theorem dX3_faulty_4 : decode cX3_faulty 4 = .ok (.iload_n 2, 1) := by decide +kernel
theorem dX3_faulty_5 : decode cX3_faulty 5 = .ok (.aload_n 0, 1) := by decide +kernel
theorem dX3_faulty_6 : decode cX3_faulty 6 = .ok (.getfield 50, 3) := by decide +kernel
theorem dX3_faulty_9 : decode cX3_faulty 9 = .ok (.if_icmp .ge 25, 3) := by decide +kernel
theorem dX3_faulty_12 : decode cX3_faulty 12 = .ok (.iload_n 1, 1) := by decide +kernel
theorem dX3_faulty_13 : decode cX3_faulty 13 = .ok (.aload_n 0, 1) := by decide +kernel
theorem dX3_faulty_14 : decode cX3_faulty 14 = .ok (.iload_n 2, 1) := by decide +kernel
theorem dX3_faulty_15 : decode cX3_faulty 15 = .ok (.invokevirtual 133, 3) := by decide +kernel
theorem dX3_faulty_18 : decode cX3_faulty 18 = .ok (.ifCond .eq 7, 3) := by decide +kernel
theorem dX3_faulty_21 : decode cX3_faulty 21 = .ok (.iconst 0, 1) := by decide +kernel
theorem dX3_faulty_22 : decode cX3_faulty 22 = .ok (.goto 4, 3) := by decide +kernel
theorem dX3_faulty_25 : decode cX3_faulty 25 = .ok (.iconst 1, 1) := by decide +kernel
theorem dX3_faulty_26 : decode cX3_faulty 26 = .ok (.iadd, 1) := by decide +kernel
theorem dX3_faulty_27 : decode cX3_faulty 27 = .ok (.istore_n 1, 1) := by decide +kernel
theorem dX3_faulty_28 : decode cX3_faulty 28 = .ok (.iinc 2 1, 3) := by decide +kernel
theorem dX3_faulty_31 : decode cX3_faulty 31 = .ok (.goto (-27), 3) := by decide +kernel
theorem dX3_faulty_34 : decode cX3_faulty 34 = .ok (.iload_n 1, 1) := by decide +kernel
theorem dX3_faulty_35 : decode cX3_faulty 35 = .ok (.ireturn, 1) := by decide +kernel
theorem dX3_links_0 : decode cX3_links 0 = .ok (.iconst 0, 1) := by decide +kernel
theorem dX3_links_1 : decode cX3_links 1 = .ok (.istore_n 1, 1) := by decide +kernel
theorem dX3_links_2 : decode cX3_links 2 = .ok (.iconst 0, 1) := by decide +kernel
theorem dX3_links_3 : decode cX3_links 3 = .ok (.istore_n 2, 1) := by decide +kernel
theorem dX3_links_4 : decode cX3_links 4 = .ok (.iload_n 2, 1) := by decide +kernel
theorem dX3_links_5 : decode cX3_links 5 = .ok (.aload_n 0, 1) := by decide +kernel
theorem dX3_links_6 : decode cX3_links 6 = .ok (.getfield 50, 3) := by decide +kernel
theorem dX3_links_9 : decode cX3_links 9 = .ok (.if_icmp .ge 52, 3) := by decide +kernel
theorem dX3_links_12 : decode cX3_links 12 = .ok (.iconst 0, 1) := by decide +kernel
theorem dX3_links_13 : decode cX3_links 13 = .ok (.istore_n 3, 1) := by decide +kernel
theorem dX3_links_14 : decode cX3_links 14 = .ok (.iload_n 3, 1) := by decide +kernel
theorem dX3_links_15 : decode cX3_links 15 = .ok (.aload_n 0, 1) := by decide +kernel
theorem dX3_links_16 : decode cX3_links 16 = .ok (.getfield 50, 3) := by decide +kernel
theorem dX3_links_19 : decode cX3_links 19 = .ok (.if_icmp .ge 36, 3) := by decide +kernel
theorem dX3_links_22 : decode cX3_links 22 = .ok (.iload_n 1, 1) := by decide +kernel
theorem dX3_links_23 : decode cX3_links 23 = .ok (.iload_n 2, 1) := by decide +kernel
theorem dX3_links_24 : decode cX3_links 24 = .ok (.iload_n 3, 1) := by decide +kernel
theorem dX3_links_25 : decode cX3_links 25 = .ok (.if_icmp .eq 21, 3) := by decide +kernel
theorem dX3_links_28 : decode cX3_links 28 = .ok (.aload_n 0, 1) := by decide +kernel
theorem dX3_links_29 : decode cX3_links 29 = .ok (.getfield 26, 3) := by decide +kernel
theorem dX3_links_32 : decode cX3_links 32 = .ok (.bipush 10, 2) := by decide +kernel
theorem dX3_links_34 : decode cX3_links 34 = .ok (.iload_n 2, 1) := by decide +kernel
theorem dX3_links_35 : decode cX3_links 35 = .ok (.imul, 1) := by decide +kernel
theorem dX3_links_36 : decode cX3_links 36 = .ok (.iload_n 3, 1) := by decide +kernel
theorem dX3_links_37 : decode cX3_links 37 = .ok (.iadd, 1) := by decide +kernel
theorem dX3_links_38 : decode cX3_links 38 = .ok (.iaload, 1) := by decide +kernel
theorem dX3_links_39 : decode cX3_links 39 = .ok (.ifCond .lt 7, 3) := by decide +kernel
theorem dX3_links_42 : decode cX3_links 42 = .ok (.iconst 1, 1) := by decide +kernel
theorem dX3_links_43 : decode cX3_links 43 = .ok (.goto 4, 3) := by decide +kernel
theorem dX3_links_46 : decode cX3_links 46 = .ok (.iconst 0, 1) := by decide +kernel
theorem dX3_links_47 : decode cX3_links 47 = .ok (.iadd, 1) := by decide +kernel
theorem dX3_links_48 : decode cX3_links 48 = .ok (.istore_n 1, 1) := by decide +kernel
theorem dX3_links_49 : decode cX3_links 49 = .ok (.iinc 3 1, 3) := by decide +kernel
theorem dX3_links_52 : decode cX3_links 52 = .ok (.goto (-38), 3) := by decide +kernel
theorem dX3_links_55 : decode cX3_links 55 = .ok (.iinc 2 1, 3) := by decide +kernel
theorem dX3_links_58 : decode cX3_links 58 = .ok (.goto (-54), 3) := by decide +kernel
theorem dX3_links_61 : decode cX3_links 61 = .ok (.iload_n 1, 1) := by decide +kernel
theorem dX3_links_62 : decode cX3_links 62 = .ok (.ireturn, 1) := by decide +kernel
theorem dX3_end_0 : decode cX3_end 0 = .ok (.aload_n 0, 1) := by decide +kernel
theorem dX3_end_1 : decode cX3_end 1 = .ok (.getfield 29, 3) := by decide +kernel
theorem dX3_end_4 : decode cX3_end 4 = .ok (.bipush 20, 2) := by decide +kernel
theorem dX3_end_6 : decode cX3_end 6 = .ok (.iload_n 2, 1) := by decide +kernel
theorem dX3_end_7 : decode cX3_end 7 = .ok (.imul, 1) := by decide +kernel
theorem dX3_end_8 : decode cX3_end 8 = .ok (.iconst 2, 1) := by decide +kernel
theorem dX3_end_9 : decode cX3_end 9 = .ok (.iload_n 1, 1) := by decide +kernel
theorem dX3_end_10 : decode cX3_end 10 = .ok (.imul, 1) := by decide +kernel
theorem dX3_end_11 : decode cX3_end 11 = .ok (.iadd, 1) := by decide +kernel
theorem dX3_end_12 : decode cX3_end 12 = .ok (.iload_n 3, 1) := by decide +kernel
theorem dX3_end_13 : decode cX3_end 13 = .ok (.iadd, 1) := by decide +kernel
theorem dX3_end_14 : decode cX3_end 14 = .ok (.laload, 1) := by decide +kernel
theorem dX3_end_15 : decode cX3_end 15 = .ok (.lreturn, 1) := by decide +kernel
theorem dX3_areSame_0 : decode cX3_areSame 0 = .ok (.aload_n 0, 1) := by decide +kernel
theorem dX3_areSame_1 : decode cX3_areSame 1 = .ok (.iload_n 1, 1) := by decide +kernel
theorem dX3_areSame_2 : decode cX3_areSame 2 = .ok (.aload_n 0, 1) := by decide +kernel
theorem dX3_areSame_3 : decode cX3_areSame 3 = .ok (.getfield 64, 3) := by decide +kernel
theorem dX3_areSame_6 : decode cX3_areSame 6 = .ok (.iconst 0, 1) := by decide +kernel
theorem dX3_areSame_7 : decode cX3_areSame 7 = .ok (.invokevirtual 136, 3) := by decide +kernel
theorem dX3_areSame_10 : decode cX3_areSame 10 = .ok (.aload_n 0, 1) := by decide +kernel
theorem dX3_areSame_11 : decode cX3_areSame 11 = .ok (.iload_n 2, 1) := by decide +kernel
theorem dX3_areSame_12 : decode cX3_areSame 12 = .ok (.aload_n 0, 1) := by decide +kernel
theorem dX3_areSame_13 : decode cX3_areSame 13 = .ok (.getfield 64, 3) := by decide +kernel
theorem dX3_areSame_16 : decode cX3_areSame 16 = .ok (.iconst 0, 1) := by decide +kernel
theorem dX3_areSame_17 : decode cX3_areSame 17 = .ok (.invokevirtual 136, 3) := by decide +kernel
theorem dX3_areSame_20 : decode cX3_areSame 20 = .ok (.lcmp, 1) := by decide +kernel
theorem dX3_areSame_21 : decode cX3_areSame 21 = .ok (.ifCond .ne 31, 3) := by decide +kernel
theorem dX3_areSame_24 : decode cX3_areSame 24 = .ok (.aload_n 0, 1) := by decide +kernel
theorem dX3_areSame_25 : decode cX3_areSame 25 = .ok (.iload_n 1, 1) := by decide +kernel
theorem dX3_areSame_26 : decode cX3_areSame 26 = .ok (.aload_n 0, 1) := by decide +kernel
theorem dX3_areSame_27 : decode cX3_areSame 27 = .ok (.getfield 64, 3) := by decide +kernel
theorem dX3_areSame_30 : decode cX3_areSame 30 = .ok (.iconst 1, 1) := by decide +kernel
theorem dX3_areSame_31 : decode cX3_areSame 31 = .ok (.invokevirtual 136, 3) := by decide +kernel
theorem dX3_areSame_34 : decode cX3_areSame 34 = .ok (.aload_n 0, 1) := by decide +kernel
theorem dX3_areSame_35 : decode cX3_areSame 35 = .ok (.iload_n 2, 1) := by decide +kernel
theorem dX3_areSame_36 : decode cX3_areSame 36 = .ok (.aload_n 0, 1) := by decide +kernel
theorem dX3_areSame_37 : decode cX3_areSame 37 = .ok (.getfield 64, 3) := by decide +kernel
theorem dX3_areSame_40 : decode cX3_areSame 40 = .ok (.iconst 1, 1) := by decide +kernel
theorem dX3_areSame_41 : decode cX3_areSame 41 = .ok (.invokevirtual 136, 3) := by decide +kernel
theorem dX3_areSame_44 : decode cX3_areSame 44 = .ok (.lcmp, 1) := by decide +kernel
theorem dX3_areSame_45 : decode cX3_areSame 45 = .ok (.ifCond .ne 7, 3) := by decide +kernel
theorem dX3_areSame_48 : decode cX3_areSame 48 = .ok (.iconst 1, 1) := by decide +kernel
theorem dX3_areSame_49 : decode cX3_areSame 49 = .ok (.goto 4, 3) := by decide +kernel
theorem dX3_areSame_52 : decode cX3_areSame 52 = .ok (.iconst 0, 1) := by decide +kernel
theorem dX3_areSame_53 : decode cX3_areSame 53 = .ok (.ireturn, 1) := by decide +kernel
theorem dX3_sameBelow_0 : decode cX3_sameBelow 0 = .ok (.iconst 0, 1) := by decide +kernel
theorem dX3_sameBelow_1 : decode cX3_sameBelow 1 = .ok (.istore_n 3, 1) := by decide +kernel
theorem dX3_sameBelow_2 : decode cX3_sameBelow 2 = .ok (.iconst 0, 1) := by decide +kernel
theorem dX3_sameBelow_3 : decode cX3_sameBelow 3 = .ok (.istore 4, 2) := by decide +kernel
theorem dX3_sameBelow_5 : decode cX3_sameBelow 5 = .ok (.iload 4, 2) := by decide +kernel
theorem dX3_sameBelow_7 : decode cX3_sameBelow 7 = .ok (.iload_n 2, 1) := by decide +kernel
theorem dX3_sameBelow_8 : decode cX3_sameBelow 8 = .ok (.if_icmp .ge 36, 3) := by decide +kernel
theorem dX3_sameBelow_11 : decode cX3_sameBelow 11 = .ok (.iload_n 3, 1) := by decide +kernel
theorem dX3_sameBelow_12 : decode cX3_sameBelow 12 = .ok (.aload_n 0, 1) := by decide +kernel
theorem dX3_sameBelow_13 : decode cX3_sameBelow 13 = .ok (.iload 4, 2) := by decide +kernel
theorem dX3_sameBelow_15 : decode cX3_sameBelow 15 = .ok (.invokevirtual 133, 3) := by decide +kernel
theorem dX3_sameBelow_18 : decode cX3_sameBelow 18 = .ok (.ifCond .eq 17, 3) := by decide +kernel
theorem dX3_sameBelow_21 : decode cX3_sameBelow 21 = .ok (.aload_n 0, 1) := by decide +kernel
theorem dX3_sameBelow_22 : decode cX3_sameBelow 22 = .ok (.iload_n 1, 1) := by decide +kernel
theorem dX3_sameBelow_23 : decode cX3_sameBelow 23 = .ok (.iload 4, 2) := by decide +kernel
theorem dX3_sameBelow_25 : decode cX3_sameBelow 25 = .ok (.invokevirtual 140, 3) := by decide +kernel
theorem dX3_sameBelow_28 : decode cX3_sameBelow 28 = .ok (.ifCond .eq 7, 3) := by decide +kernel
theorem dX3_sameBelow_31 : decode cX3_sameBelow 31 = .ok (.iconst 1, 1) := by decide +kernel
theorem dX3_sameBelow_32 : decode cX3_sameBelow 32 = .ok (.goto 4, 3) := by decide +kernel
theorem dX3_sameBelow_35 : decode cX3_sameBelow 35 = .ok (.iconst 0, 1) := by decide +kernel
theorem dX3_sameBelow_36 : decode cX3_sameBelow 36 = .ok (.iadd, 1) := by decide +kernel
theorem dX3_sameBelow_37 : decode cX3_sameBelow 37 = .ok (.istore_n 3, 1) := by decide +kernel
theorem dX3_sameBelow_38 : decode cX3_sameBelow 38 = .ok (.iinc 4 1, 3) := by decide +kernel
theorem dX3_sameBelow_41 : decode cX3_sameBelow 41 = .ok (.goto (-36), 3) := by decide +kernel
theorem dX3_sameBelow_44 : decode cX3_sameBelow 44 = .ok (.iload_n 3, 1) := by decide +kernel
theorem dX3_sameBelow_45 : decode cX3_sameBelow 45 = .ok (.ireturn, 1) := by decide +kernel
theorem dX3_count_0 : decode cX3_count 0 = .ok (.iconst 0, 1) := by decide +kernel
theorem dX3_count_1 : decode cX3_count 1 = .ok (.istore_n 2, 1) := by decide +kernel
theorem dX3_count_2 : decode cX3_count 2 = .ok (.iconst 0, 1) := by decide +kernel
theorem dX3_count_3 : decode cX3_count 3 = .ok (.istore_n 3, 1) := by decide +kernel
theorem dX3_count_4 : decode cX3_count 4 = .ok (.iload_n 3, 1) := by decide +kernel
theorem dX3_count_5 : decode cX3_count 5 = .ok (.aload_n 0, 1) := by decide +kernel
theorem dX3_count_6 : decode cX3_count 6 = .ok (.getfield 50, 3) := by decide +kernel
theorem dX3_count_9 : decode cX3_count 9 = .ok (.if_icmp .ge 34, 3) := by decide +kernel
theorem dX3_count_12 : decode cX3_count 12 = .ok (.iload_n 2, 1) := by decide +kernel
theorem dX3_count_13 : decode cX3_count 13 = .ok (.aload_n 0, 1) := by decide +kernel
theorem dX3_count_14 : decode cX3_count 14 = .ok (.iload_n 3, 1) := by decide +kernel
theorem dX3_count_15 : decode cX3_count 15 = .ok (.invokevirtual 133, 3) := by decide +kernel
theorem dX3_count_18 : decode cX3_count 18 = .ok (.ifCond .eq 16, 3) := by decide +kernel
theorem dX3_count_21 : decode cX3_count 21 = .ok (.aload_n 0, 1) := by decide +kernel
theorem dX3_count_22 : decode cX3_count 22 = .ok (.iload_n 3, 1) := by decide +kernel
theorem dX3_count_23 : decode cX3_count 23 = .ok (.iload_n 3, 1) := by decide +kernel
theorem dX3_count_24 : decode cX3_count 24 = .ok (.invokevirtual 143, 3) := by decide +kernel
theorem dX3_count_27 : decode cX3_count 27 = .ok (.ifCond .ne 7, 3) := by decide +kernel
theorem dX3_count_30 : decode cX3_count 30 = .ok (.iconst 1, 1) := by decide +kernel
theorem dX3_count_31 : decode cX3_count 31 = .ok (.goto 4, 3) := by decide +kernel
theorem dX3_count_34 : decode cX3_count 34 = .ok (.iconst 0, 1) := by decide +kernel
theorem dX3_count_35 : decode cX3_count 35 = .ok (.iadd, 1) := by decide +kernel
theorem dX3_count_36 : decode cX3_count 36 = .ok (.istore_n 2, 1) := by decide +kernel
theorem dX3_count_37 : decode cX3_count 37 = .ok (.iinc 3 1, 3) := by decide +kernel
theorem dX3_count_40 : decode cX3_count 40 = .ok (.goto (-36), 3) := by decide +kernel
theorem dX3_count_43 : decode cX3_count 43 = .ok (.iload_n 1, 1) := by decide +kernel
theorem dX3_count_44 : decode cX3_count 44 = .ok (.tableswitch 86 0 7 #[48, 53, 58, 64, 69, 74, 79, 84], 48) := by decide +kernel
theorem dX3_count_92 : decode cX3_count 92 = .ok (.aload_n 0, 1) := by decide +kernel
theorem dX3_count_93 : decode cX3_count 93 = .ok (.getfield 50, 3) := by decide +kernel
theorem dX3_count_96 : decode cX3_count 96 = .ok (.ireturn, 1) := by decide +kernel
theorem dX3_count_97 : decode cX3_count 97 = .ok (.aload_n 0, 1) := by decide +kernel
theorem dX3_count_98 : decode cX3_count 98 = .ok (.getfield 54, 3) := by decide +kernel
theorem dX3_count_101 : decode cX3_count 101 = .ok (.ireturn, 1) := by decide +kernel
theorem dX3_count_102 : decode cX3_count 102 = .ok (.aload_n 0, 1) := by decide +kernel
theorem dX3_count_103 : decode cX3_count 103 = .ok (.getfield 57, 3) := by decide +kernel
theorem dX3_count_106 : decode cX3_count 106 = .ok (.l2i, 1) := by decide +kernel
theorem dX3_count_107 : decode cX3_count 107 = .ok (.ireturn, 1) := by decide +kernel
theorem dX3_count_108 : decode cX3_count 108 = .ok (.aload_n 0, 1) := by decide +kernel
theorem dX3_count_109 : decode cX3_count 109 = .ok (.getfield 64, 3) := by decide +kernel
theorem dX3_count_112 : decode cX3_count 112 = .ok (.ireturn, 1) := by decide +kernel
theorem dX3_count_113 : decode cX3_count 113 = .ok (.aload_n 0, 1) := by decide +kernel
theorem dX3_count_114 : decode cX3_count 114 = .ok (.invokevirtual 147, 3) := by decide +kernel
theorem dX3_count_117 : decode cX3_count 117 = .ok (.ireturn, 1) := by decide +kernel
theorem dX3_count_118 : decode cX3_count 118 = .ok (.aload_n 0, 1) := by decide +kernel
theorem dX3_count_119 : decode cX3_count 119 = .ok (.getfield 61, 3) := by decide +kernel
theorem dX3_count_122 : decode cX3_count 122 = .ok (.ireturn, 1) := by decide +kernel
theorem dX3_count_123 : decode cX3_count 123 = .ok (.aload_n 0, 1) := by decide +kernel
theorem dX3_count_124 : decode cX3_count 124 = .ok (.invokevirtual 150, 3) := by decide +kernel
theorem dX3_count_127 : decode cX3_count 127 = .ok (.ireturn, 1) := by decide +kernel
theorem dX3_count_128 : decode cX3_count 128 = .ok (.iload_n 2, 1) := by decide +kernel
theorem dX3_count_129 : decode cX3_count 129 = .ok (.ireturn, 1) := by decide +kernel
theorem dX3_count_130 : decode cX3_count 130 = .ok (.sipush (-1002), 3) := by decide +kernel
theorem dX3_count_133 : decode cX3_count 133 = .ok (.ireturn, 1) := by decide +kernel
theorem dX3_strategy_0 : decode cX3_strategy 0 = .ok (.aload_n 0, 1) := by decide +kernel
theorem dX3_strategy_1 : decode cX3_strategy 1 = .ok (.iload_n 1, 1) := by decide +kernel
theorem dX3_strategy_2 : decode cX3_strategy 2 = .ok (.invokevirtual 117, 3) := by decide +kernel
theorem dX3_strategy_5 : decode cX3_strategy 5 = .ok (.ifCond .eq 9, 3) := by decide +kernel
theorem dX3_strategy_8 : decode cX3_strategy 8 = .ok (.sipush (-1001), 3) := by decide +kernel
theorem dX3_strategy_11 : decode cX3_strategy 11 = .ok (.goto 9, 3) := by decide +kernel
theorem dX3_strategy_14 : decode cX3_strategy 14 = .ok (.aload_n 0, 1) := by decide +kernel
theorem dX3_strategy_15 : decode cX3_strategy 15 = .ok (.getfield 13, 3) := by decide +kernel
theorem dX3_strategy_18 : decode cX3_strategy 18 = .ok (.iload_n 1, 1) := by decide +kernel
theorem dX3_strategy_19 : decode cX3_strategy 19 = .ok (.iaload, 1) := by decide +kernel
theorem dX3_strategy_20 : decode cX3_strategy 20 = .ok (.ireturn, 1) := by decide +kernel
theorem dX3_outermost_0 : decode cX3_outermost 0 = .ok (.iconst 0, 1) := by decide +kernel
theorem dX3_outermost_1 : decode cX3_outermost 1 = .ok (.istore_n 3, 1) := by decide +kernel
theorem dX3_outermost_2 : decode cX3_outermost 2 = .ok (.lconst 0, 1) := by decide +kernel
theorem dX3_outermost_3 : decode cX3_outermost 3 = .ok (.lstore 4, 2) := by decide +kernel
theorem dX3_outermost_5 : decode cX3_outermost 5 = .ok (.iconst 0, 1) := by decide +kernel
theorem dX3_outermost_6 : decode cX3_outermost 6 = .ok (.istore 6, 2) := by decide +kernel
theorem dX3_outermost_8 : decode cX3_outermost 8 = .ok (.iload 6, 2) := by decide +kernel
theorem dX3_outermost_10 : decode cX3_outermost 10 = .ok (.aload_n 0, 1) := by decide +kernel
theorem dX3_outermost_11 : decode cX3_outermost 11 = .ok (.getfield 50, 3) := by decide +kernel
theorem dX3_outermost_14 : decode cX3_outermost 14 = .ok (.if_icmp .ge 96, 3) := by decide +kernel
theorem dX3_outermost_17 : decode cX3_outermost 17 = .ok (.aload_n 0, 1) := by decide +kernel
theorem dX3_outermost_18 : decode cX3_outermost 18 = .ok (.iload 6, 2) := by decide +kernel
theorem dX3_outermost_20 : decode cX3_outermost 20 = .ok (.invokevirtual 133, 3) := by decide +kernel
theorem dX3_outermost_23 : decode cX3_outermost 23 = .ok (.ifCond .eq 81, 3) := by decide +kernel
theorem dX3_outermost_26 : decode cX3_outermost 26 = .ok (.iload_n 1, 1) := by decide +kernel
theorem dX3_outermost_27 : decode cX3_outermost 27 = .ok (.ifCond .ge 17, 3) := by decide +kernel
theorem dX3_outermost_30 : decode cX3_outermost 30 = .ok (.aload_n 0, 1) := by decide +kernel
theorem dX3_outermost_31 : decode cX3_outermost 31 = .ok (.getfield 7, 3) := by decide +kernel
theorem dX3_outermost_34 : decode cX3_outermost 34 = .ok (.iconst 2, 1) := by decide +kernel
theorem dX3_outermost_35 : decode cX3_outermost 35 = .ok (.iload 6, 2) := by decide +kernel
theorem dX3_outermost_37 : decode cX3_outermost 37 = .ok (.imul, 1) := by decide +kernel
theorem dX3_outermost_38 : decode cX3_outermost 38 = .ok (.iload_n 2, 1) := by decide +kernel
theorem dX3_outermost_39 : decode cX3_outermost 39 = .ok (.iadd, 1) := by decide +kernel
theorem dX3_outermost_40 : decode cX3_outermost 40 = .ok (.laload, 1) := by decide +kernel
theorem dX3_outermost_41 : decode cX3_outermost 41 = .ok (.goto 11, 3) := by decide +kernel
theorem dX3_outermost_44 : decode cX3_outermost 44 = .ok (.aload_n 0, 1) := by decide +kernel
theorem dX3_outermost_45 : decode cX3_outermost 45 = .ok (.iload 6, 2) := by decide +kernel
theorem dX3_outermost_47 : decode cX3_outermost 47 = .ok (.iload_n 1, 1) := by decide +kernel
theorem dX3_outermost_48 : decode cX3_outermost 48 = .ok (.iload_n 2, 1) := by decide +kernel
theorem dX3_outermost_49 : decode cX3_outermost 49 = .ok (.invokevirtual 136, 3) := by decide +kernel
theorem dX3_outermost_52 : decode cX3_outermost 52 = .ok (.lstore 7, 2) := by decide +kernel
theorem dX3_outermost_54 : decode cX3_outermost 54 = .ok (.iload_n 3, 1) := by decide +kernel
theorem dX3_outermost_55 : decode cX3_outermost 55 = .ok (.ifCond .eq 26, 3) := by decide +kernel
theorem dX3_outermost_58 : decode cX3_outermost 58 = .ok (.iload_n 2, 1) := by decide +kernel
theorem dX3_outermost_59 : decode cX3_outermost 59 = .ok (.ifCond .ne 14, 3) := by decide +kernel
theorem dX3_outermost_62 : decode cX3_outermost 62 = .ok (.lload 7, 2) := by decide +kernel
theorem dX3_outermost_64 : decode cX3_outermost 64 = .ok (.lload 4, 2) := by decide +kernel
theorem dX3_outermost_66 : decode cX3_outermost 66 = .ok (.lcmp, 1) := by decide +kernel
theorem dX3_outermost_67 : decode cX3_outermost 67 = .ok (.ifCond .ge 18, 3) := by decide +kernel
theorem dX3_outermost_70 : decode cX3_outermost 70 = .ok (.goto 11, 3) := by decide +kernel
theorem dX3_outermost_73 : decode cX3_outermost 73 = .ok (.lload 7, 2) := by decide +kernel
theorem dX3_outermost_75 : decode cX3_outermost 75 = .ok (.lload 4, 2) := by decide +kernel
theorem dX3_outermost_77 : decode cX3_outermost 77 = .ok (.lcmp, 1) := by decide +kernel
theorem dX3_outermost_78 : decode cX3_outermost 78 = .ok (.ifCond .le 7, 3) := by decide +kernel
theorem dX3_outermost_81 : decode cX3_outermost 81 = .ok (.iconst 1, 1) := by decide +kernel
theorem dX3_outermost_82 : decode cX3_outermost 82 = .ok (.goto 4, 3) := by decide +kernel
theorem dX3_outermost_85 : decode cX3_outermost 85 = .ok (.iconst 0, 1) := by decide +kernel
theorem dX3_outermost_86 : decode cX3_outermost 86 = .ok (.istore 9, 2) := by decide +kernel
theorem dX3_outermost_88 : decode cX3_outermost 88 = .ok (.iload 9, 2) := by decide +kernel
theorem dX3_outermost_90 : decode cX3_outermost 90 = .ok (.ifCond .eq 8, 3) := by decide +kernel
theorem dX3_outermost_93 : decode cX3_outermost 93 = .ok (.lload 7, 2) := by decide +kernel
theorem dX3_outermost_95 : decode cX3_outermost 95 = .ok (.goto 5, 3) := by decide +kernel
theorem dX3_outermost_98 : decode cX3_outermost 98 = .ok (.lload 4, 2) := by decide +kernel
theorem dX3_outermost_100 : decode cX3_outermost 100 = .ok (.lstore 4, 2) := by decide +kernel
theorem dX3_outermost_102 : decode cX3_outermost 102 = .ok (.iconst 1, 1) := by decide +kernel
theorem dX3_outermost_103 : decode cX3_outermost 103 = .ok (.istore_n 3, 1) := by decide +kernel
theorem dX3_outermost_104 : decode cX3_outermost 104 = .ok (.iinc 6 1, 3) := by decide +kernel
theorem dX3_outermost_107 : decode cX3_outermost 107 = .ok (.goto (-99), 3) := by decide +kernel
theorem dX3_outermost_110 : decode cX3_outermost 110 = .ok (.lload 4, 2) := by decide +kernel
theorem dX3_outermost_112 : decode cX3_outermost 112 = .ok (.lreturn, 1) := by decide +kernel
theorem dX3_isSent_0 : decode cX3_isSent 0 = .ok (.iload_n 1, 1) := by decide +kernel
theorem dX3_isSent_1 : decode cX3_isSent 1 = .ok (.iload_n 2, 1) := by decide +kernel
theorem dX3_isSent_2 : decode cX3_isSent 2 = .ok (.if_icmp .eq 17, 3) := by decide +kernel
theorem dX3_isSent_5 : decode cX3_isSent 5 = .ok (.aload_n 0, 1) := by decide +kernel
theorem dX3_isSent_6 : decode cX3_isSent 6 = .ok (.getfield 26, 3) := by decide +kernel
theorem dX3_isSent_9 : decode cX3_isSent 9 = .ok (.bipush 10, 2) := by decide +kernel
theorem dX3_isSent_11 : decode cX3_isSent 11 = .ok (.iload_n 1, 1) := by decide +kernel
theorem dX3_isSent_12 : decode cX3_isSent 12 = .ok (.imul, 1) := by decide +kernel
theorem dX3_isSent_13 : decode cX3_isSent 13 = .ok (.iload_n 2, 1) := by decide +kernel
theorem dX3_isSent_14 : decode cX3_isSent 14 = .ok (.iadd, 1) := by decide +kernel
theorem dX3_isSent_15 : decode cX3_isSent 15 = .ok (.iaload, 1) := by decide +kernel
theorem dX3_isSent_16 : decode cX3_isSent 16 = .ok (.ifCond .lt 7, 3) := by decide +kernel
theorem dX3_isSent_19 : decode cX3_isSent 19 = .ok (.iconst 1, 1) := by decide +kernel
theorem dX3_isSent_20 : decode cX3_isSent 20 = .ok (.goto 4, 3) := by decide +kernel
theorem dX3_isSent_23 : decode cX3_isSent 23 = .ok (.iconst 0, 1) := by decide +kernel
theorem dX3_isSent_24 : decode cX3_isSent 24 = .ok (.ireturn, 1) := by decide +kernel
theorem dX3_sent_0 : decode cX3_sent 0 = .ok (.iload_n 1, 1) := by decide +kernel
theorem dX3_sent_1 : decode cX3_sent 1 = .ok (.iload_n 2, 1) := by decide +kernel
theorem dX3_sent_2 : decode cX3_sent 2 = .ok (.if_icmp .ne 14, 3) := by decide +kernel
theorem dX3_sent_5 : decode cX3_sent 5 = .ok (.aload_n 0, 1) := by decide +kernel
theorem dX3_sent_6 : decode cX3_sent 6 = .ok (.iload_n 2, 1) := by decide +kernel
theorem dX3_sent_7 : decode cX3_sent 7 = .ok (.aload_n 0, 1) := by decide +kernel
theorem dX3_sent_8 : decode cX3_sent 8 = .ok (.getfield 64, 3) := by decide +kernel
theorem dX3_sent_11 : decode cX3_sent 11 = .ok (.iload_n 3, 1) := by decide +kernel
theorem dX3_sent_12 : decode cX3_sent 12 = .ok (.invokevirtual 136, 3) := by decide +kernel
theorem dX3_sent_15 : decode cX3_sent 15 = .ok (.lreturn, 1) := by decide +kernel
theorem dX3_sent_16 : decode cX3_sent 16 = .ok (.aload_n 0, 1) := by decide +kernel
theorem dX3_sent_17 : decode cX3_sent 17 = .ok (.getfield 26, 3) := by decide +kernel
theorem dX3_sent_20 : decode cX3_sent 20 = .ok (.bipush 10, 2) := by decide +kernel
theorem dX3_sent_22 : decode cX3_sent 22 = .ok (.iload_n 1, 1) := by decide +kernel
theorem dX3_sent_23 : decode cX3_sent 23 = .ok (.imul, 1) := by decide +kernel
theorem dX3_sent_24 : decode cX3_sent 24 = .ok (.iload_n 2, 1) := by decide +kernel
theorem dX3_sent_25 : decode cX3_sent 25 = .ok (.iadd, 1) := by decide +kernel
theorem dX3_sent_26 : decode cX3_sent 26 = .ok (.iaload, 1) := by decide +kernel
theorem dX3_sent_27 : decode cX3_sent 27 = .ok (.istore 4, 2) := by decide +kernel
theorem dX3_sent_29 : decode cX3_sent 29 = .ok (.aload_n 0, 1) := by decide +kernel
theorem dX3_sent_30 : decode cX3_sent 30 = .ok (.getfield 13, 3) := by decide +kernel
theorem dX3_sent_33 : decode cX3_sent 33 = .ok (.iload_n 1, 1) := by decide +kernel
theorem dX3_sent_34 : decode cX3_sent 34 = .ok (.iaload, 1) := by decide +kernel
theorem dX3_sent_35 : decode cX3_sent 35 = .ok (.istore 5, 2) := by decide +kernel
theorem dX3_sent_37 : decode cX3_sent 37 = .ok (.iload 5, 2) := by decide +kernel
theorem dX3_sent_39 : decode cX3_sent 39 = .ok (.ifCond .ne 30, 3) := by decide +kernel
theorem dX3_sent_42 : decode cX3_sent 42 = .ok (.aload_n 0, 1) := by decide +kernel
theorem dX3_sent_43 : decode cX3_sent 43 = .ok (.iload_n 1, 1) := by decide +kernel
theorem dX3_sent_44 : decode cX3_sent 44 = .ok (.aload_n 0, 1) := by decide +kernel
theorem dX3_sent_45 : decode cX3_sent 45 = .ok (.getfield 64, 3) := by decide +kernel
theorem dX3_sent_48 : decode cX3_sent 48 = .ok (.iload 4, 2) := by decide +kernel
theorem dX3_sent_50 : decode cX3_sent 50 = .ok (.if_icmp .le 13, 3) := by decide +kernel
theorem dX3_sent_53 : decode cX3_sent 53 = .ok (.aload_n 0, 1) := by decide +kernel
theorem dX3_sent_54 : decode cX3_sent 54 = .ok (.getfield 64, 3) := by decide +kernel
theorem dX3_sent_57 : decode cX3_sent 57 = .ok (.iload 4, 2) := by decide +kernel
theorem dX3_sent_59 : decode cX3_sent 59 = .ok (.isub, 1) := by decide +kernel
theorem dX3_sent_60 : decode cX3_sent 60 = .ok (.goto 4, 3) := by decide +kernel
theorem dX3_sent_63 : decode cX3_sent 63 = .ok (.iconst 0, 1) := by decide +kernel
theorem dX3_sent_64 : decode cX3_sent 64 = .ok (.iload_n 3, 1) := by decide +kernel
theorem dX3_sent_65 : decode cX3_sent 65 = .ok (.invokevirtual 136, 3) := by decide +kernel
theorem dX3_sent_68 : decode cX3_sent 68 = .ok (.lreturn, 1) := by decide +kernel
theorem dX3_sent_69 : decode cX3_sent 69 = .ok (.aload_n 0, 1) := by decide +kernel
theorem dX3_sent_70 : decode cX3_sent 70 = .ok (.getfield 7, 3) := by decide +kernel
theorem dX3_sent_73 : decode cX3_sent 73 = .ok (.iconst 2, 1) := by decide +kernel
theorem dX3_sent_74 : decode cX3_sent 74 = .ok (.iload_n 1, 1) := by decide +kernel
theorem dX3_sent_75 : decode cX3_sent 75 = .ok (.imul, 1) := by decide +kernel
theorem dX3_sent_76 : decode cX3_sent 76 = .ok (.iload_n 3, 1) := by decide +kernel
theorem dX3_sent_77 : decode cX3_sent 77 = .ok (.iadd, 1) := by decide +kernel
theorem dX3_sent_78 : decode cX3_sent 78 = .ok (.laload, 1) := by decide +kernel
theorem dX3_sent_79 : decode cX3_sent 79 = .ok (.aload_n 0, 1) := by decide +kernel
theorem dX3_sent_80 : decode cX3_sent 80 = .ok (.getfield 64, 3) := by decide +kernel
theorem dX3_sent_83 : decode cX3_sent 83 = .ok (.i2l, 1) := by decide +kernel
theorem dX3_sent_84 : decode cX3_sent 84 = .ok (.aload_n 0, 1) := by decide +kernel
theorem dX3_sent_85 : decode cX3_sent 85 = .ok (.getfield 17, 3) := by decide +kernel
theorem dX3_sent_88 : decode cX3_sent 88 = .ok (.iload_n 1, 1) := by decide +kernel
theorem dX3_sent_89 : decode cX3_sent 89 = .ok (.laload, 1) := by decide +kernel
theorem dX3_sent_90 : decode cX3_sent 90 = .ok (.lmul, 1) := by decide +kernel
theorem dX3_sent_91 : decode cX3_sent 91 = .ok (.ladd, 1) := by decide +kernel
theorem dX3_sent_92 : decode cX3_sent 92 = .ok (.lstore 6, 2) := by decide +kernel
theorem dX3_sent_94 : decode cX3_sent 94 = .ok (.iload 5, 2) := by decide +kernel
theorem dX3_sent_96 : decode cX3_sent 96 = .ok (.iconst 1, 1) := by decide +kernel
theorem dX3_sent_97 : decode cX3_sent 97 = .ok (.if_icmp .ne 37, 3) := by decide +kernel
theorem dX3_sent_100 : decode cX3_sent 100 = .ok (.iload_n 3, 1) := by decide +kernel
theorem dX3_sent_101 : decode cX3_sent 101 = .ok (.ifCond .ne 17, 3) := by decide +kernel
theorem dX3_sent_104 : decode cX3_sent 104 = .ok (.aload_n 0, 1) := by decide +kernel
theorem dX3_sent_105 : decode cX3_sent 105 = .ok (.getfield 20, 3) := by decide +kernel
theorem dX3_sent_108 : decode cX3_sent 108 = .ok (.bipush 10, 2) := by decide +kernel
theorem dX3_sent_110 : decode cX3_sent 110 = .ok (.iload_n 1, 1) := by decide +kernel
theorem dX3_sent_111 : decode cX3_sent 111 = .ok (.imul, 1) := by decide +kernel
theorem dX3_sent_112 : decode cX3_sent 112 = .ok (.iload_n 2, 1) := by decide +kernel
theorem dX3_sent_113 : decode cX3_sent 113 = .ok (.iadd, 1) := by decide +kernel
theorem dX3_sent_114 : decode cX3_sent 114 = .ok (.laload, 1) := by decide +kernel
theorem dX3_sent_115 : decode cX3_sent 115 = .ok (.goto 14, 3) := by decide +kernel
theorem dX3_sent_118 : decode cX3_sent 118 = .ok (.aload_n 0, 1) := by decide +kernel
theorem dX3_sent_119 : decode cX3_sent 119 = .ok (.getfield 23, 3) := by decide +kernel
theorem dX3_sent_122 : decode cX3_sent 122 = .ok (.bipush 10, 2) := by decide +kernel
theorem dX3_sent_124 : decode cX3_sent 124 = .ok (.iload_n 1, 1) := by decide +kernel
theorem dX3_sent_125 : decode cX3_sent 125 = .ok (.imul, 1) := by decide +kernel
theorem dX3_sent_126 : decode cX3_sent 126 = .ok (.iload_n 2, 1) := by decide +kernel
theorem dX3_sent_127 : decode cX3_sent 127 = .ok (.iadd, 1) := by decide +kernel
theorem dX3_sent_128 : decode cX3_sent 128 = .ok (.laload, 1) := by decide +kernel
theorem dX3_sent_129 : decode cX3_sent 129 = .ok (.lstore 6, 2) := by decide +kernel
theorem dX3_sent_131 : decode cX3_sent 131 = .ok (.goto 101, 3) := by decide +kernel
theorem dX3_sent_134 : decode cX3_sent 134 = .ok (.iload 5, 2) := by decide +kernel
theorem dX3_sent_136 : decode cX3_sent 136 = .ok (.iconst 2, 1) := by decide +kernel
theorem dX3_sent_137 : decode cX3_sent 137 = .ok (.if_icmp .ne 49, 3) := by decide +kernel
theorem dX3_sent_140 : decode cX3_sent 140 = .ok (.iload_n 2, 1) := by decide +kernel
theorem dX3_sent_141 : decode cX3_sent 141 = .ok (.iconst 2, 1) := by decide +kernel
theorem dX3_sent_142 : decode cX3_sent 142 = .ok (.irem, 1) := by decide +kernel
theorem dX3_sent_143 : decode cX3_sent 143 = .ok (.ifCond .ne 22, 3) := by decide +kernel
theorem dX3_sent_146 : decode cX3_sent 146 = .ok (.aload_n 0, 1) := by decide +kernel
theorem dX3_sent_147 : decode cX3_sent 147 = .ok (.aload_n 0, 1) := by decide +kernel
theorem dX3_sent_148 : decode cX3_sent 148 = .ok (.getfield 64, 3) := by decide +kernel
theorem dX3_sent_151 : decode cX3_sent 151 = .ok (.iconst 0, 1) := by decide +kernel
theorem dX3_sent_152 : decode cX3_sent 152 = .ok (.invokevirtual 153, 3) := by decide +kernel
theorem dX3_sent_155 : decode cX3_sent 155 = .ok (.aload_n 0, 1) := by decide +kernel
theorem dX3_sent_156 : decode cX3_sent 156 = .ok (.getfield 17, 3) := by decide +kernel
theorem dX3_sent_159 : decode cX3_sent 159 = .ok (.iload_n 1, 1) := by decide +kernel
theorem dX3_sent_160 : decode cX3_sent 160 = .ok (.laload, 1) := by decide +kernel
theorem dX3_sent_161 : decode cX3_sent 161 = .ok (.lsub, 1) := by decide +kernel
theorem dX3_sent_162 : decode cX3_sent 162 = .ok (.goto 19, 3) := by decide +kernel
theorem dX3_sent_165 : decode cX3_sent 165 = .ok (.aload_n 0, 1) := by decide +kernel
theorem dX3_sent_166 : decode cX3_sent 166 = .ok (.aload_n 0, 1) := by decide +kernel
theorem dX3_sent_167 : decode cX3_sent 167 = .ok (.getfield 64, 3) := by decide +kernel
theorem dX3_sent_170 : decode cX3_sent 170 = .ok (.iconst 1, 1) := by decide +kernel
theorem dX3_sent_171 : decode cX3_sent 171 = .ok (.invokevirtual 153, 3) := by decide +kernel
theorem dX3_sent_174 : decode cX3_sent 174 = .ok (.aload_n 0, 1) := by decide +kernel
theorem dX3_sent_175 : decode cX3_sent 175 = .ok (.getfield 17, 3) := by decide +kernel
theorem dX3_sent_178 : decode cX3_sent 178 = .ok (.iload_n 1, 1) := by decide +kernel
theorem dX3_sent_179 : decode cX3_sent 179 = .ok (.laload, 1) := by decide +kernel
theorem dX3_sent_180 : decode cX3_sent 180 = .ok (.ladd, 1) := by decide +kernel
theorem dX3_sent_181 : decode cX3_sent 181 = .ok (.lstore 6, 2) := by decide +kernel
theorem dX3_sent_183 : decode cX3_sent 183 = .ok (.goto 49, 3) := by decide +kernel
theorem dX3_sent_186 : decode cX3_sent 186 = .ok (.iload 5, 2) := by decide +kernel
theorem dX3_sent_188 : decode cX3_sent 188 = .ok (.iconst 3, 1) := by decide +kernel
theorem dX3_sent_189 : decode cX3_sent 189 = .ok (.if_icmp .ne 25, 3) := by decide +kernel
theorem dX3_sent_192 : decode cX3_sent 192 = .ok (.aload_n 0, 1) := by decide +kernel
theorem dX3_sent_193 : decode cX3_sent 193 = .ok (.iload_n 2, 1) := by decide +kernel
theorem dX3_sent_194 : decode cX3_sent 194 = .ok (.aload_n 0, 1) := by decide +kernel
theorem dX3_sent_195 : decode cX3_sent 195 = .ok (.getfield 64, 3) := by decide +kernel
theorem dX3_sent_198 : decode cX3_sent 198 = .ok (.iload_n 3, 1) := by decide +kernel
theorem dX3_sent_199 : decode cX3_sent 199 = .ok (.invokevirtual 136, 3) := by decide +kernel
theorem dX3_sent_202 : decode cX3_sent 202 = .ok (.aload_n 0, 1) := by decide +kernel
theorem dX3_sent_203 : decode cX3_sent 203 = .ok (.getfield 17, 3) := by decide +kernel
theorem dX3_sent_206 : decode cX3_sent 206 = .ok (.iload_n 1, 1) := by decide +kernel
theorem dX3_sent_207 : decode cX3_sent 207 = .ok (.laload, 1) := by decide +kernel
theorem dX3_sent_208 : decode cX3_sent 208 = .ok (.ladd, 1) := by decide +kernel
theorem dX3_sent_209 : decode cX3_sent 209 = .ok (.lstore 6, 2) := by decide +kernel
theorem dX3_sent_211 : decode cX3_sent 211 = .ok (.goto 21, 3) := by decide +kernel
theorem dX3_sent_214 : decode cX3_sent 214 = .ok (.iload 5, 2) := by decide +kernel
theorem dX3_sent_216 : decode cX3_sent 216 = .ok (.iconst 4, 1) := by decide +kernel
theorem dX3_sent_217 : decode cX3_sent 217 = .ok (.if_icmp .ne 15, 3) := by decide +kernel
theorem dX3_sent_220 : decode cX3_sent 220 = .ok (.aload_n 0, 1) := by decide +kernel
theorem dX3_sent_221 : decode cX3_sent 221 = .ok (.iload_n 2, 1) := by decide +kernel
theorem dX3_sent_222 : decode cX3_sent 222 = .ok (.aload_n 0, 1) := by decide +kernel
theorem dX3_sent_223 : decode cX3_sent 223 = .ok (.getfield 64, 3) := by decide +kernel
theorem dX3_sent_226 : decode cX3_sent 226 = .ok (.iload_n 3, 1) := by decide +kernel
theorem dX3_sent_227 : decode cX3_sent 227 = .ok (.invokevirtual 136, 3) := by decide +kernel
theorem dX3_sent_230 : decode cX3_sent 230 = .ok (.lstore 6, 2) := by decide +kernel
theorem dX3_sent_232 : decode cX3_sent 232 = .ok (.ldc2_w 157, 3) := by decide +kernel
theorem dX3_sent_235 : decode cX3_sent 235 = .ok (.aload_n 0, 1) := by decide +kernel
theorem dX3_sent_236 : decode cX3_sent 236 = .ok (.getfield 57, 3) := by decide +kernel
theorem dX3_sent_239 : decode cX3_sent 239 = .ok (.lmul, 1) := by decide +kernel
theorem dX3_sent_240 : decode cX3_sent 240 = .ok (.lstore 8, 2) := by decide +kernel
theorem dX3_sent_242 : decode cX3_sent 242 = .ok (.lload 6, 2) := by decide +kernel
theorem dX3_sent_244 : decode cX3_sent 244 = .ok (.lload 8, 2) := by decide +kernel
theorem dX3_sent_246 : decode cX3_sent 246 = .ok (.lneg, 1) := by decide +kernel
theorem dX3_sent_247 : decode cX3_sent 247 = .ok (.lcmp, 1) := by decide +kernel
theorem dX3_sent_248 : decode cX3_sent 248 = .ok (.ifCond .ge 9, 3) := by decide +kernel
theorem dX3_sent_251 : decode cX3_sent 251 = .ok (.lload 8, 2) := by decide +kernel
theorem dX3_sent_253 : decode cX3_sent 253 = .ok (.lneg, 1) := by decide +kernel
theorem dX3_sent_254 : decode cX3_sent 254 = .ok (.goto 18, 3) := by decide +kernel
theorem dX3_sent_257 : decode cX3_sent 257 = .ok (.lload 6, 2) := by decide +kernel
theorem dX3_sent_259 : decode cX3_sent 259 = .ok (.lload 8, 2) := by decide +kernel
theorem dX3_sent_261 : decode cX3_sent 261 = .ok (.lcmp, 1) := by decide +kernel
theorem dX3_sent_262 : decode cX3_sent 262 = .ok (.ifCond .le 8, 3) := by decide +kernel
theorem dX3_sent_265 : decode cX3_sent 265 = .ok (.lload 8, 2) := by decide +kernel
theorem dX3_sent_267 : decode cX3_sent 267 = .ok (.goto 5, 3) := by decide +kernel
theorem dX3_sent_270 : decode cX3_sent 270 = .ok (.lload 6, 2) := by decide +kernel
theorem dX3_sent_272 : decode cX3_sent 272 = .ok (.lreturn, 1) := by decide +kernel
theorem dX3_gather_0 : decode cX3_gather 0 = .ok (.aload_n 0, 1) := by decide +kernel
theorem dX3_gather_1 : decode cX3_gather 1 = .ok (.iconst 0, 1) := by decide +kernel
theorem dX3_gather_2 : decode cX3_gather 2 = .ok (.putfield 159, 3) := by decide +kernel
theorem dX3_gather_5 : decode cX3_gather 5 = .ok (.iconst 0, 1) := by decide +kernel
theorem dX3_gather_6 : decode cX3_gather 6 = .ok (.istore_n 3, 1) := by decide +kernel
theorem dX3_gather_7 : decode cX3_gather 7 = .ok (.iload_n 3, 1) := by decide +kernel
theorem dX3_gather_8 : decode cX3_gather 8 = .ok (.aload_n 0, 1) := by decide +kernel
theorem dX3_gather_9 : decode cX3_gather 9 = .ok (.getfield 50, 3) := by decide +kernel
theorem dX3_gather_12 : decode cX3_gather 12 = .ok (.if_icmp .ge 94, 3) := by decide +kernel
theorem dX3_gather_15 : decode cX3_gather 15 = .ok (.aload_n 0, 1) := by decide +kernel
theorem dX3_gather_16 : decode cX3_gather 16 = .ok (.iload_n 3, 1) := by decide +kernel
theorem dX3_gather_17 : decode cX3_gather 17 = .ok (.iload_n 1, 1) := by decide +kernel
theorem dX3_gather_18 : decode cX3_gather 18 = .ok (.invokevirtual 162, 3) := by decide +kernel
theorem dX3_gather_21 : decode cX3_gather 21 = .ok (.ifCond .eq 79, 3) := by decide +kernel
theorem dX3_gather_24 : decode cX3_gather 24 = .ok (.aload_n 0, 1) := by decide +kernel
theorem dX3_gather_25 : decode cX3_gather 25 = .ok (.iload_n 3, 1) := by decide +kernel
theorem dX3_gather_26 : decode cX3_gather 26 = .ok (.iload_n 1, 1) := by decide +kernel
theorem dX3_gather_27 : decode cX3_gather 27 = .ok (.iload_n 2, 1) := by decide +kernel
theorem dX3_gather_28 : decode cX3_gather 28 = .ok (.invokevirtual 165, 3) := by decide +kernel
theorem dX3_gather_31 : decode cX3_gather 31 = .ok (.lstore 4, 2) := by decide +kernel
theorem dX3_gather_33 : decode cX3_gather 33 = .ok (.aload_n 0, 1) := by decide +kernel
theorem dX3_gather_34 : decode cX3_gather 34 = .ok (.getfield 159, 3) := by decide +kernel
theorem dX3_gather_37 : decode cX3_gather 37 = .ok (.istore 6, 2) := by decide +kernel
theorem dX3_gather_39 : decode cX3_gather 39 = .ok (.iload 6, 2) := by decide +kernel
theorem dX3_gather_41 : decode cX3_gather 41 = .ok (.ifCond .le 40, 3) := by decide +kernel
theorem dX3_gather_44 : decode cX3_gather 44 = .ok (.aload_n 0, 1) := by decide +kernel
theorem dX3_gather_45 : decode cX3_gather 45 = .ok (.getfield 36, 3) := by decide +kernel
theorem dX3_gather_48 : decode cX3_gather 48 = .ok (.iload 6, 2) := by decide +kernel
theorem dX3_gather_50 : decode cX3_gather 50 = .ok (.iconst 1, 1) := by decide +kernel
theorem dX3_gather_51 : decode cX3_gather 51 = .ok (.isub, 1) := by decide +kernel
theorem dX3_gather_52 : decode cX3_gather 52 = .ok (.laload, 1) := by decide +kernel
theorem dX3_gather_53 : decode cX3_gather 53 = .ok (.lload 4, 2) := by decide +kernel
theorem dX3_gather_55 : decode cX3_gather 55 = .ok (.lcmp, 1) := by decide +kernel
theorem dX3_gather_56 : decode cX3_gather 56 = .ok (.ifCond .le 25, 3) := by decide +kernel
theorem dX3_gather_59 : decode cX3_gather 59 = .ok (.aload_n 0, 1) := by decide +kernel
theorem dX3_gather_60 : decode cX3_gather 60 = .ok (.getfield 36, 3) := by decide +kernel
theorem dX3_gather_63 : decode cX3_gather 63 = .ok (.iload 6, 2) := by decide +kernel
theorem dX3_gather_65 : decode cX3_gather 65 = .ok (.aload_n 0, 1) := by decide +kernel
theorem dX3_gather_66 : decode cX3_gather 66 = .ok (.getfield 36, 3) := by decide +kernel
theorem dX3_gather_69 : decode cX3_gather 69 = .ok (.iload 6, 2) := by decide +kernel
theorem dX3_gather_71 : decode cX3_gather 71 = .ok (.iconst 1, 1) := by decide +kernel
theorem dX3_gather_72 : decode cX3_gather 72 = .ok (.isub, 1) := by decide +kernel
theorem dX3_gather_73 : decode cX3_gather 73 = .ok (.laload, 1) := by decide +kernel
theorem dX3_gather_74 : decode cX3_gather 74 = .ok (.lastore, 1) := by decide +kernel
theorem dX3_gather_75 : decode cX3_gather 75 = .ok (.iinc 6 (-1), 3) := by decide +kernel
theorem dX3_gather_78 : decode cX3_gather 78 = .ok (.goto (-39), 3) := by decide +kernel
theorem dX3_gather_81 : decode cX3_gather 81 = .ok (.aload_n 0, 1) := by decide +kernel
theorem dX3_gather_82 : decode cX3_gather 82 = .ok (.getfield 36, 3) := by decide +kernel
theorem dX3_gather_85 : decode cX3_gather 85 = .ok (.iload 6, 2) := by decide +kernel
theorem dX3_gather_87 : decode cX3_gather 87 = .ok (.lload 4, 2) := by decide +kernel
theorem dX3_gather_89 : decode cX3_gather 89 = .ok (.lastore, 1) := by decide +kernel
theorem dX3_gather_90 : decode cX3_gather 90 = .ok (.aload_n 0, 1) := by decide +kernel
theorem dX3_gather_91 : decode cX3_gather 91 = .ok (.dup, 1) := by decide +kernel
theorem dX3_gather_92 : decode cX3_gather 92 = .ok (.getfield 159, 3) := by decide +kernel
theorem dX3_gather_95 : decode cX3_gather 95 = .ok (.iconst 1, 1) := by decide +kernel
theorem dX3_gather_96 : decode cX3_gather 96 = .ok (.iadd, 1) := by decide +kernel
theorem dX3_gather_97 : decode cX3_gather 97 = .ok (.putfield 159, 3) := by decide +kernel
theorem dX3_gather_100 : decode cX3_gather 100 = .ok (.iinc 3 1, 3) := by decide +kernel
theorem dX3_gather_103 : decode cX3_gather 103 = .ok (.goto (-96), 3) := by decide +kernel
theorem dX3_gather_106 : decode cX3_gather 106 = .ok (.return_, 1) := by decide +kernel
theorem dX3_combined_0 : decode cX3_combined 0 = .ok (.aload_n 0, 1) := by decide +kernel
theorem dX3_combined_1 : decode cX3_combined 1 = .ok (.getfield 54, 3) := by decide +kernel
theorem dX3_combined_4 : decode cX3_combined 4 = .ok (.istore_n 1, 1) := by decide +kernel
theorem dX3_combined_5 : decode cX3_combined 5 = .ok (.aload_n 0, 1) := by decide +kernel
theorem dX3_combined_6 : decode cX3_combined 6 = .ok (.getfield 159, 3) := by decide +kernel
theorem dX3_combined_9 : decode cX3_combined 9 = .ok (.iconst 1, 1) := by decide +kernel
theorem dX3_combined_10 : decode cX3_combined 10 = .ok (.isub, 1) := by decide +kernel
theorem dX3_combined_11 : decode cX3_combined 11 = .ok (.aload_n 0, 1) := by decide +kernel
theorem dX3_combined_12 : decode cX3_combined 12 = .ok (.getfield 54, 3) := by decide +kernel
theorem dX3_combined_15 : decode cX3_combined 15 = .ok (.isub, 1) := by decide +kernel
theorem dX3_combined_16 : decode cX3_combined 16 = .ok (.istore_n 2, 1) := by decide +kernel
theorem dX3_combined_17 : decode cX3_combined 17 = .ok (.iload_n 2, 1) := by decide +kernel
theorem dX3_combined_18 : decode cX3_combined 18 = .ok (.iload_n 1, 1) := by decide +kernel
theorem dX3_combined_19 : decode cX3_combined 19 = .ok (.isub, 1) := by decide +kernel
theorem dX3_combined_20 : decode cX3_combined 20 = .ok (.iconst 1, 1) := by decide +kernel
theorem dX3_combined_21 : decode cX3_combined 21 = .ok (.iadd, 1) := by decide +kernel
theorem dX3_combined_22 : decode cX3_combined 22 = .ok (.istore_n 3, 1) := by decide +kernel
theorem dX3_combined_23 : decode cX3_combined 23 = .ok (.aload_n 0, 1) := by decide +kernel
theorem dX3_combined_24 : decode cX3_combined 24 = .ok (.getfield 61, 3) := by decide +kernel
theorem dX3_combined_27 : decode cX3_combined 27 = .ok (.iconst 1, 1) := by decide +kernel
theorem dX3_combined_28 : decode cX3_combined 28 = .ok (.if_icmp .ne 23, 3) := by decide +kernel
theorem dX3_combined_31 : decode cX3_combined 31 = .ok (.aload_n 0, 1) := by decide +kernel
theorem dX3_combined_32 : decode cX3_combined 32 = .ok (.getfield 36, 3) := by decide +kernel
theorem dX3_combined_35 : decode cX3_combined 35 = .ok (.iload_n 1, 1) := by decide +kernel
theorem dX3_combined_36 : decode cX3_combined 36 = .ok (.laload, 1) := by decide +kernel
theorem dX3_combined_37 : decode cX3_combined 37 = .ok (.aload_n 0, 1) := by decide +kernel
theorem dX3_combined_38 : decode cX3_combined 38 = .ok (.getfield 36, 3) := by decide +kernel
theorem dX3_combined_41 : decode cX3_combined 41 = .ok (.iload_n 2, 1) := by decide +kernel
theorem dX3_combined_42 : decode cX3_combined 42 = .ok (.laload, 1) := by decide +kernel
theorem dX3_combined_43 : decode cX3_combined 43 = .ok (.ladd, 1) := by decide +kernel
theorem dX3_combined_44 : decode cX3_combined 44 = .ok (.ldc2_w 67, 3) := by decide +kernel
theorem dX3_combined_47 : decode cX3_combined 47 = .ok (.invokestatic 168, 3) := by decide +kernel
theorem dX3_combined_50 : decode cX3_combined 50 = .ok (.lreturn, 1) := by decide +kernel
theorem dX3_combined_51 : decode cX3_combined 51 = .ok (.aload_n 0, 1) := by decide +kernel
theorem dX3_combined_52 : decode cX3_combined 52 = .ok (.getfield 61, 3) := by decide +kernel
theorem dX3_combined_55 : decode cX3_combined 55 = .ok (.iconst 2, 1) := by decide +kernel
theorem dX3_combined_56 : decode cX3_combined 56 = .ok (.if_icmp .ne 33, 3) := by decide +kernel
theorem dX3_combined_59 : decode cX3_combined 59 = .ok (.aload_n 0, 1) := by decide +kernel
theorem dX3_combined_60 : decode cX3_combined 60 = .ok (.getfield 36, 3) := by decide +kernel
theorem dX3_combined_63 : decode cX3_combined 63 = .ok (.iload_n 1, 1) := by decide +kernel
theorem dX3_combined_64 : decode cX3_combined 64 = .ok (.iload_n 3, 1) := by decide +kernel
theorem dX3_combined_65 : decode cX3_combined 65 = .ok (.iconst 1, 1) := by decide +kernel
theorem dX3_combined_66 : decode cX3_combined 66 = .ok (.isub, 1) := by decide +kernel
theorem dX3_combined_67 : decode cX3_combined 67 = .ok (.iconst 2, 1) := by decide +kernel
theorem dX3_combined_68 : decode cX3_combined 68 = .ok (.idiv, 1) := by decide +kernel
theorem dX3_combined_69 : decode cX3_combined 69 = .ok (.iadd, 1) := by decide +kernel
theorem dX3_combined_70 : decode cX3_combined 70 = .ok (.laload, 1) := by decide +kernel
theorem dX3_combined_71 : decode cX3_combined 71 = .ok (.aload_n 0, 1) := by decide +kernel
theorem dX3_combined_72 : decode cX3_combined 72 = .ok (.getfield 36, 3) := by decide +kernel
theorem dX3_combined_75 : decode cX3_combined 75 = .ok (.iload_n 1, 1) := by decide +kernel
theorem dX3_combined_76 : decode cX3_combined 76 = .ok (.iload_n 3, 1) := by decide +kernel
theorem dX3_combined_77 : decode cX3_combined 77 = .ok (.iconst 2, 1) := by decide +kernel
theorem dX3_combined_78 : decode cX3_combined 78 = .ok (.idiv, 1) := by decide +kernel
theorem dX3_combined_79 : decode cX3_combined 79 = .ok (.iadd, 1) := by decide +kernel
theorem dX3_combined_80 : decode cX3_combined 80 = .ok (.laload, 1) := by decide +kernel
theorem dX3_combined_81 : decode cX3_combined 81 = .ok (.ladd, 1) := by decide +kernel
theorem dX3_combined_82 : decode cX3_combined 82 = .ok (.ldc2_w 67, 3) := by decide +kernel
theorem dX3_combined_85 : decode cX3_combined 85 = .ok (.invokestatic 168, 3) := by decide +kernel
theorem dX3_combined_88 : decode cX3_combined 88 = .ok (.lreturn, 1) := by decide +kernel
theorem dX3_combined_89 : decode cX3_combined 89 = .ok (.aload_n 0, 1) := by decide +kernel
theorem dX3_combined_90 : decode cX3_combined 90 = .ok (.getfield 61, 3) := by decide +kernel
theorem dX3_combined_93 : decode cX3_combined 93 = .ok (.iconst 3, 1) := by decide +kernel
theorem dX3_combined_94 : decode cX3_combined 94 = .ok (.if_icmp .ne 18, 3) := by decide +kernel
theorem dX3_combined_97 : decode cX3_combined 97 = .ok (.aload_n 0, 1) := by decide +kernel
theorem dX3_combined_98 : decode cX3_combined 98 = .ok (.getfield 54, 3) := by decide +kernel
theorem dX3_combined_101 : decode cX3_combined 101 = .ok (.iconst 1, 1) := by decide +kernel
theorem dX3_combined_102 : decode cX3_combined 102 = .ok (.if_icmp .le 10, 3) := by decide +kernel
theorem dX3_combined_105 : decode cX3_combined 105 = .ok (.aload_n 0, 1) := by decide +kernel
theorem dX3_combined_106 : decode cX3_combined 106 = .ok (.getfield 54, 3) := by decide +kernel
theorem dX3_combined_109 : decode cX3_combined 109 = .ok (.goto 4, 3) := by decide +kernel
theorem dX3_combined_112 : decode cX3_combined 112 = .ok (.iconst 1, 1) := by decide +kernel
theorem dX3_combined_113 : decode cX3_combined 113 = .ok (.istore 4, 2) := by decide +kernel
theorem dX3_combined_115 : decode cX3_combined 115 = .ok (.lconst 0, 1) := by decide +kernel
theorem dX3_combined_116 : decode cX3_combined 116 = .ok (.lstore 5, 2) := by decide +kernel
theorem dX3_combined_118 : decode cX3_combined 118 = .ok (.iconst 0, 1) := by decide +kernel
theorem dX3_combined_119 : decode cX3_combined 119 = .ok (.istore 7, 2) := by decide +kernel
theorem dX3_combined_121 : decode cX3_combined 121 = .ok (.iload_n 1, 1) := by decide +kernel
theorem dX3_combined_122 : decode cX3_combined 122 = .ok (.istore 8, 2) := by decide +kernel
theorem dX3_combined_124 : decode cX3_combined 124 = .ok (.iload 8, 2) := by decide +kernel
theorem dX3_combined_126 : decode cX3_combined 126 = .ok (.iload_n 2, 1) := by decide +kernel
theorem dX3_combined_127 : decode cX3_combined 127 = .ok (.if_icmp .gt 28, 3) := by decide +kernel
theorem dX3_combined_130 : decode cX3_combined 130 = .ok (.lload 5, 2) := by decide +kernel
theorem dX3_combined_132 : decode cX3_combined 132 = .ok (.aload_n 0, 1) := by decide +kernel
theorem dX3_combined_133 : decode cX3_combined 133 = .ok (.getfield 36, 3) := by decide +kernel
theorem dX3_combined_136 : decode cX3_combined 136 = .ok (.iload 8, 2) := by decide +kernel
theorem dX3_combined_138 : decode cX3_combined 138 = .ok (.laload, 1) := by decide +kernel
theorem dX3_combined_139 : decode cX3_combined 139 = .ok (.ladd, 1) := by decide +kernel
theorem dX3_combined_140 : decode cX3_combined 140 = .ok (.lstore 5, 2) := by decide +kernel
theorem dX3_combined_142 : decode cX3_combined 142 = .ok (.iinc 7 1, 3) := by decide +kernel
theorem dX3_combined_145 : decode cX3_combined 145 = .ok (.iload 8, 2) := by decide +kernel
theorem dX3_combined_147 : decode cX3_combined 147 = .ok (.iload 4, 2) := by decide +kernel
theorem dX3_combined_149 : decode cX3_combined 149 = .ok (.iadd, 1) := by decide +kernel
theorem dX3_combined_150 : decode cX3_combined 150 = .ok (.istore 8, 2) := by decide +kernel
theorem dX3_combined_152 : decode cX3_combined 152 = .ok (.goto (-28), 3) := by decide +kernel
theorem dX3_combined_155 : decode cX3_combined 155 = .ok (.lload 5, 2) := by decide +kernel
theorem dX3_combined_157 : decode cX3_combined 157 = .ok (.iload 7, 2) := by decide +kernel
theorem dX3_combined_159 : decode cX3_combined 159 = .ok (.i2l, 1) := by decide +kernel
theorem dX3_combined_160 : decode cX3_combined 160 = .ok (.invokestatic 168, 3) := by decide +kernel
theorem dX3_combined_163 : decode cX3_combined 163 = .ok (.lreturn, 1) := by decide +kernel
theorem dX3_round_0 : decode cX3_round 0 = .ok (.iconst 0, 1) := by decide +kernel
theorem dX3_round_1 : decode cX3_round 1 = .ok (.istore_n 1, 1) := by decide +kernel
theorem dX3_round_2 : decode cX3_round 2 = .ok (.iload_n 1, 1) := by decide +kernel
theorem dX3_round_3 : decode cX3_round 3 = .ok (.aload_n 0, 1) := by decide +kernel
theorem dX3_round_4 : decode cX3_round 4 = .ok (.getfield 50, 3) := by decide +kernel
theorem dX3_round_7 : decode cX3_round 7 = .ok (.if_icmp .ge 97, 3) := by decide +kernel
theorem dX3_round_10 : decode cX3_round 10 = .ok (.iconst 0, 1) := by decide +kernel
theorem dX3_round_11 : decode cX3_round 11 = .ok (.istore_n 2, 1) := by decide +kernel
theorem dX3_round_12 : decode cX3_round 12 = .ok (.iload_n 2, 1) := by decide +kernel
theorem dX3_round_13 : decode cX3_round 13 = .ok (.iconst 2, 1) := by decide +kernel
theorem dX3_round_14 : decode cX3_round 14 = .ok (.if_icmp .ge 84, 3) := by decide +kernel
theorem dX3_round_17 : decode cX3_round 17 = .ok (.aload_n 0, 1) := by decide +kernel
theorem dX3_round_18 : decode cX3_round 18 = .ok (.iload_n 1, 1) := by decide +kernel
theorem dX3_round_19 : decode cX3_round 19 = .ok (.iload_n 2, 1) := by decide +kernel
theorem dX3_round_20 : decode cX3_round 20 = .ok (.invokevirtual 171, 3) := by decide +kernel
theorem dX3_round_23 : decode cX3_round 23 = .ok (.aload_n 0, 1) := by decide +kernel
theorem dX3_round_24 : decode cX3_round 24 = .ok (.getfield 159, 3) := by decide +kernel
theorem dX3_round_27 : decode cX3_round 27 = .ok (.iconst 2, 1) := by decide +kernel
theorem dX3_round_28 : decode cX3_round 28 = .ok (.aload_n 0, 1) := by decide +kernel
theorem dX3_round_29 : decode cX3_round 29 = .ok (.getfield 54, 3) := by decide +kernel
theorem dX3_round_32 : decode cX3_round 32 = .ok (.imul, 1) := by decide +kernel
theorem dX3_round_33 : decode cX3_round 33 = .ok (.if_icmp .le 11, 3) := by decide +kernel
theorem dX3_round_36 : decode cX3_round 36 = .ok (.aload_n 0, 1) := by decide +kernel
theorem dX3_round_37 : decode cX3_round 37 = .ok (.iload_n 1, 1) := by decide +kernel
theorem dX3_round_38 : decode cX3_round 38 = .ok (.invokevirtual 133, 3) := by decide +kernel
theorem dX3_round_41 : decode cX3_round 41 = .ok (.ifCond .ne 7, 3) := by decide +kernel
theorem dX3_round_44 : decode cX3_round 44 = .ok (.iconst 1, 1) := by decide +kernel
theorem dX3_round_45 : decode cX3_round 45 = .ok (.goto 4, 3) := by decide +kernel
theorem dX3_round_48 : decode cX3_round 48 = .ok (.iconst 0, 1) := by decide +kernel
theorem dX3_round_49 : decode cX3_round 49 = .ok (.istore_n 3, 1) := by decide +kernel
theorem dX3_round_50 : decode cX3_round 50 = .ok (.aload_n 0, 1) := by decide +kernel
theorem dX3_round_51 : decode cX3_round 51 = .ok (.getfield 29, 3) := by decide +kernel
theorem dX3_round_54 : decode cX3_round 54 = .ok (.bipush 20, 2) := by decide +kernel
theorem dX3_round_56 : decode cX3_round 56 = .ok (.aload_n 0, 1) := by decide +kernel
theorem dX3_round_57 : decode cX3_round 57 = .ok (.getfield 64, 3) := by decide +kernel
theorem dX3_round_60 : decode cX3_round 60 = .ok (.imul, 1) := by decide +kernel
theorem dX3_round_61 : decode cX3_round 61 = .ok (.bipush 20, 2) := by decide +kernel
theorem dX3_round_63 : decode cX3_round 63 = .ok (.iadd, 1) := by decide +kernel
theorem dX3_round_64 : decode cX3_round 64 = .ok (.iconst 2, 1) := by decide +kernel
theorem dX3_round_65 : decode cX3_round 65 = .ok (.iload_n 1, 1) := by decide +kernel
theorem dX3_round_66 : decode cX3_round 66 = .ok (.imul, 1) := by decide +kernel
theorem dX3_round_67 : decode cX3_round 67 = .ok (.iadd, 1) := by decide +kernel
theorem dX3_round_68 : decode cX3_round 68 = .ok (.iload_n 2, 1) := by decide +kernel
theorem dX3_round_69 : decode cX3_round 69 = .ok (.iadd, 1) := by decide +kernel
theorem dX3_round_70 : decode cX3_round 70 = .ok (.iload_n 3, 1) := by decide +kernel
theorem dX3_round_71 : decode cX3_round 71 = .ok (.ifCond .eq 16, 3) := by decide +kernel
theorem dX3_round_74 : decode cX3_round 74 = .ok (.aload_n 0, 1) := by decide +kernel
theorem dX3_round_75 : decode cX3_round 75 = .ok (.iload_n 1, 1) := by decide +kernel
theorem dX3_round_76 : decode cX3_round 76 = .ok (.aload_n 0, 1) := by decide +kernel
theorem dX3_round_77 : decode cX3_round 77 = .ok (.getfield 64, 3) := by decide +kernel
theorem dX3_round_80 : decode cX3_round 80 = .ok (.iload_n 2, 1) := by decide +kernel
theorem dX3_round_81 : decode cX3_round 81 = .ok (.invokevirtual 136, 3) := by decide +kernel
theorem dX3_round_84 : decode cX3_round 84 = .ok (.goto 7, 3) := by decide +kernel
theorem dX3_round_87 : decode cX3_round 87 = .ok (.aload_n 0, 1) := by decide +kernel
theorem dX3_round_88 : decode cX3_round 88 = .ok (.invokevirtual 175, 3) := by decide +kernel
theorem dX3_round_91 : decode cX3_round 91 = .ok (.lastore, 1) := by decide +kernel
theorem dX3_round_92 : decode cX3_round 92 = .ok (.iinc 2 1, 3) := by decide +kernel
theorem dX3_round_95 : decode cX3_round 95 = .ok (.goto (-83), 3) := by decide +kernel
theorem dX3_round_98 : decode cX3_round 98 = .ok (.iinc 1 1, 3) := by decide +kernel
theorem dX3_round_101 : decode cX3_round 101 = .ok (.goto (-99), 3) := by decide +kernel
theorem dX3_round_104 : decode cX3_round 104 = .ok (.aload_n 0, 1) := by decide +kernel
theorem dX3_round_105 : decode cX3_round 105 = .ok (.dup, 1) := by decide +kernel
theorem dX3_round_106 : decode cX3_round 106 = .ok (.getfield 64, 3) := by decide +kernel
theorem dX3_round_109 : decode cX3_round 109 = .ok (.iconst 1, 1) := by decide +kernel
theorem dX3_round_110 : decode cX3_round 110 = .ok (.iadd, 1) := by decide +kernel
theorem dX3_round_111 : decode cX3_round 111 = .ok (.putfield 64, 3) := by decide +kernel
theorem dX3_round_114 : decode cX3_round 114 = .ok (.return_, 1) := by decide +kernel
theorem dX3_run_0 : decode cX3_run 0 = .ok (.iload_n 1, 1) := by decide +kernel
theorem dX3_run_1 : decode cX3_run 1 = .ok (.i2l, 1) := by decide +kernel
theorem dX3_run_2 : decode cX3_run 2 = .ok (.lconst 1, 1) := by decide +kernel
theorem dX3_run_3 : decode cX3_run 3 = .ok (.ldc2_w 178, 3) := by decide +kernel
theorem dX3_run_6 : decode cX3_run 6 = .ok (.invokestatic 71, 3) := by decide +kernel
