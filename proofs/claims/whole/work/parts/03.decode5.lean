theorem dX3_run_9 : decode cX3_run 9 = .ok (.ifCond .ne 7, 3) := by decide +kernel
theorem dX3_run_12 : decode cX3_run 12 = .ok (.sipush (-1002), 3) := by decide +kernel
theorem dX3_run_15 : decode cX3_run 15 = .ok (.ireturn, 1) := by decide +kernel
theorem dX3_run_16 : decode cX3_run 16 = .ok (.aload_n 0, 1) := by decide +kernel
theorem dX3_run_17 : decode cX3_run 17 = .ok (.getfield 64, 3) := by decide +kernel
theorem dX3_run_20 : decode cX3_run 20 = .ok (.iload_n 1, 1) := by decide +kernel
theorem dX3_run_21 : decode cX3_run 21 = .ok (.iadd, 1) := by decide +kernel
theorem dX3_run_22 : decode cX3_run 22 = .ok (.bipush 60, 2) := by decide +kernel
theorem dX3_run_24 : decode cX3_run 24 = .ok (.if_icmp .le 7, 3) := by decide +kernel
theorem dX3_run_27 : decode cX3_run 27 = .ok (.sipush (-1004), 3) := by decide +kernel
theorem dX3_run_30 : decode cX3_run 30 = .ok (.ireturn, 1) := by decide +kernel
theorem dX3_run_31 : decode cX3_run 31 = .ok (.iconst 0, 1) := by decide +kernel
theorem dX3_run_32 : decode cX3_run 32 = .ok (.istore_n 2, 1) := by decide +kernel
theorem dX3_run_33 : decode cX3_run 33 = .ok (.iload_n 2, 1) := by decide +kernel
theorem dX3_run_34 : decode cX3_run 34 = .ok (.iload_n 1, 1) := by decide +kernel
theorem dX3_run_35 : decode cX3_run 35 = .ok (.if_icmp .ge 13, 3) := by decide +kernel
theorem dX3_run_38 : decode cX3_run 38 = .ok (.aload_n 0, 1) := by decide +kernel
theorem dX3_run_39 : decode cX3_run 39 = .ok (.invokevirtual 180, 3) := by decide +kernel
theorem dX3_run_42 : decode cX3_run 42 = .ok (.iinc 2 1, 3) := by decide +kernel
theorem dX3_run_45 : decode cX3_run 45 = .ok (.goto (-12), 3) := by decide +kernel
theorem dX3_run_48 : decode cX3_run 48 = .ok (.aload_n 0, 1) := by decide +kernel
theorem dX3_run_49 : decode cX3_run 49 = .ok (.getfield 64, 3) := by decide +kernel
theorem dX3_run_52 : decode cX3_run 52 = .ok (.ireturn, 1) := by decide +kernel
theorem dX3_widthOf_0 : decode cX3_widthOf 0 = .ok (.lconst 0, 1) := by decide +kernel
theorem dX3_widthOf_1 : decode cX3_widthOf 1 = .ok (.lstore_n 2, 1) := by decide +kernel
theorem dX3_widthOf_2 : decode cX3_widthOf 2 = .ok (.iconst 0, 1) := by decide +kernel
theorem dX3_widthOf_3 : decode cX3_widthOf 3 = .ok (.istore 4, 2) := by decide +kernel
theorem dX3_widthOf_5 : decode cX3_widthOf 5 = .ok (.iload 4, 2) := by decide +kernel
theorem dX3_widthOf_7 : decode cX3_widthOf 7 = .ok (.iconst 2, 1) := by decide +kernel
theorem dX3_widthOf_8 : decode cX3_widthOf 8 = .ok (.if_icmp .ge 102, 3) := by decide +kernel
theorem dX3_widthOf_11 : decode cX3_widthOf 11 = .ok (.iconst 0, 1) := by decide +kernel
theorem dX3_widthOf_12 : decode cX3_widthOf 12 = .ok (.istore 5, 2) := by decide +kernel
theorem dX3_widthOf_14 : decode cX3_widthOf 14 = .ok (.iload 5, 2) := by decide +kernel
theorem dX3_widthOf_16 : decode cX3_widthOf 16 = .ok (.aload_n 0, 1) := by decide +kernel
theorem dX3_widthOf_17 : decode cX3_widthOf 17 = .ok (.getfield 50, 3) := by decide +kernel
theorem dX3_widthOf_20 : decode cX3_widthOf 20 = .ok (.if_icmp .ge 84, 3) := by decide +kernel
theorem dX3_widthOf_23 : decode cX3_widthOf 23 = .ok (.iconst 0, 1) := by decide +kernel
theorem dX3_widthOf_24 : decode cX3_widthOf 24 = .ok (.istore 6, 2) := by decide +kernel
theorem dX3_widthOf_26 : decode cX3_widthOf 26 = .ok (.iload 6, 2) := by decide +kernel
theorem dX3_widthOf_28 : decode cX3_widthOf 28 = .ok (.aload_n 0, 1) := by decide +kernel
theorem dX3_widthOf_29 : decode cX3_widthOf 29 = .ok (.getfield 50, 3) := by decide +kernel
theorem dX3_widthOf_32 : decode cX3_widthOf 32 = .ok (.if_icmp .ge 66, 3) := by decide +kernel
theorem dX3_widthOf_35 : decode cX3_widthOf 35 = .ok (.aload_n 0, 1) := by decide +kernel
theorem dX3_widthOf_36 : decode cX3_widthOf 36 = .ok (.iload 5, 2) := by decide +kernel
theorem dX3_widthOf_38 : decode cX3_widthOf 38 = .ok (.invokevirtual 133, 3) := by decide +kernel
theorem dX3_widthOf_41 : decode cX3_widthOf 41 = .ok (.ifCond .eq 34, 3) := by decide +kernel
theorem dX3_widthOf_44 : decode cX3_widthOf 44 = .ok (.aload_n 0, 1) := by decide +kernel
theorem dX3_widthOf_45 : decode cX3_widthOf 45 = .ok (.iload 6, 2) := by decide +kernel
theorem dX3_widthOf_47 : decode cX3_widthOf 47 = .ok (.invokevirtual 133, 3) := by decide +kernel
theorem dX3_widthOf_50 : decode cX3_widthOf 50 = .ok (.ifCond .eq 25, 3) := by decide +kernel
theorem dX3_widthOf_53 : decode cX3_widthOf 53 = .ok (.aload_n 0, 1) := by decide +kernel
theorem dX3_widthOf_54 : decode cX3_widthOf 54 = .ok (.iload 5, 2) := by decide +kernel
theorem dX3_widthOf_56 : decode cX3_widthOf 56 = .ok (.iload_n 1, 1) := by decide +kernel
theorem dX3_widthOf_57 : decode cX3_widthOf 57 = .ok (.iload 4, 2) := by decide +kernel
theorem dX3_widthOf_59 : decode cX3_widthOf 59 = .ok (.invokevirtual 136, 3) := by decide +kernel
theorem dX3_widthOf_62 : decode cX3_widthOf 62 = .ok (.aload_n 0, 1) := by decide +kernel
theorem dX3_widthOf_63 : decode cX3_widthOf 63 = .ok (.iload 6, 2) := by decide +kernel
theorem dX3_widthOf_65 : decode cX3_widthOf 65 = .ok (.iload_n 1, 1) := by decide +kernel
theorem dX3_widthOf_66 : decode cX3_widthOf 66 = .ok (.iload 4, 2) := by decide +kernel
theorem dX3_widthOf_68 : decode cX3_widthOf 68 = .ok (.invokevirtual 136, 3) := by decide +kernel
theorem dX3_widthOf_71 : decode cX3_widthOf 71 = .ok (.lsub, 1) := by decide +kernel
theorem dX3_widthOf_72 : decode cX3_widthOf 72 = .ok (.goto 4, 3) := by decide +kernel
theorem dX3_widthOf_75 : decode cX3_widthOf 75 = .ok (.lconst 0, 1) := by decide +kernel
theorem dX3_widthOf_76 : decode cX3_widthOf 76 = .ok (.lstore 7, 2) := by decide +kernel
theorem dX3_widthOf_78 : decode cX3_widthOf 78 = .ok (.lload 7, 2) := by decide +kernel
theorem dX3_widthOf_80 : decode cX3_widthOf 80 = .ok (.lload_n 2, 1) := by decide +kernel
theorem dX3_widthOf_81 : decode cX3_widthOf 81 = .ok (.lcmp, 1) := by decide +kernel
theorem dX3_widthOf_82 : decode cX3_widthOf 82 = .ok (.ifCond .le 8, 3) := by decide +kernel
theorem dX3_widthOf_85 : decode cX3_widthOf 85 = .ok (.lload 7, 2) := by decide +kernel
theorem dX3_widthOf_87 : decode cX3_widthOf 87 = .ok (.goto 4, 3) := by decide +kernel
theorem dX3_widthOf_90 : decode cX3_widthOf 90 = .ok (.lload_n 2, 1) := by decide +kernel
theorem dX3_widthOf_91 : decode cX3_widthOf 91 = .ok (.lstore_n 2, 1) := by decide +kernel
theorem dX3_widthOf_92 : decode cX3_widthOf 92 = .ok (.iinc 6 1, 3) := by decide +kernel
theorem dX3_widthOf_95 : decode cX3_widthOf 95 = .ok (.goto (-69), 3) := by decide +kernel
theorem dX3_widthOf_98 : decode cX3_widthOf 98 = .ok (.iinc 5 1, 3) := by decide +kernel
theorem dX3_widthOf_101 : decode cX3_widthOf 101 = .ok (.goto (-87), 3) := by decide +kernel
theorem dX3_widthOf_104 : decode cX3_widthOf 104 = .ok (.iinc 4 1, 3) := by decide +kernel
theorem dX3_widthOf_107 : decode cX3_widthOf 107 = .ok (.goto (-102), 3) := by decide +kernel
theorem dX3_widthOf_110 : decode cX3_widthOf 110 = .ok (.lload_n 2, 1) := by decide +kernel
theorem dX3_widthOf_111 : decode cX3_widthOf 111 = .ok (.lreturn, 1) := by decide +kernel
theorem dX3_isGoal_0 : decode cX3_isGoal 0 = .ok (.iload_n 0, 1) := by decide +kernel
theorem dX3_isGoal_1 : decode cX3_isGoal 1 = .ok (.i2l, 1) := by decide +kernel
theorem dX3_isGoal_2 : decode cX3_isGoal 2 = .ok (.lconst 0, 1) := by decide +kernel
theorem dX3_isGoal_3 : decode cX3_isGoal 3 = .ok (.ldc2_w 103, 3) := by decide +kernel
theorem dX3_isGoal_6 : decode cX3_isGoal 6 = .ok (.invokestatic 71, 3) := by decide +kernel
theorem dX3_isGoal_9 : decode cX3_isGoal 9 = .ok (.ifCond .eq 31, 3) := by decide +kernel
theorem dX3_isGoal_12 : decode cX3_isGoal 12 = .ok (.iload_n 1, 1) := by decide +kernel
theorem dX3_isGoal_13 : decode cX3_isGoal 13 = .ok (.i2l, 1) := by decide +kernel
theorem dX3_isGoal_14 : decode cX3_isGoal 14 = .ok (.lconst 1, 1) := by decide +kernel
theorem dX3_isGoal_15 : decode cX3_isGoal 15 = .ok (.ldc2_w 103, 3) := by decide +kernel
theorem dX3_isGoal_18 : decode cX3_isGoal 18 = .ok (.invokestatic 71, 3) := by decide +kernel
theorem dX3_isGoal_21 : decode cX3_isGoal 21 = .ok (.ifCond .eq 19, 3) := by decide +kernel
theorem dX3_isGoal_24 : decode cX3_isGoal 24 = .ok (.iload_n 2, 1) := by decide +kernel
theorem dX3_isGoal_25 : decode cX3_isGoal 25 = .ok (.i2l, 1) := by decide +kernel
theorem dX3_isGoal_26 : decode cX3_isGoal 26 = .ok (.lconst 0, 1) := by decide +kernel
theorem dX3_isGoal_27 : decode cX3_isGoal 27 = .ok (.ldc2_w 178, 3) := by decide +kernel
theorem dX3_isGoal_30 : decode cX3_isGoal 30 = .ok (.invokestatic 71, 3) := by decide +kernel
theorem dX3_isGoal_33 : decode cX3_isGoal 33 = .ok (.ifCond .eq 7, 3) := by decide +kernel
theorem dX3_isGoal_36 : decode cX3_isGoal 36 = .ok (.iconst 1, 1) := by decide +kernel
theorem dX3_isGoal_37 : decode cX3_isGoal 37 = .ok (.goto 4, 3) := by decide +kernel
theorem dX3_isGoal_40 : decode cX3_isGoal 40 = .ok (.iconst 0, 1) := by decide +kernel
theorem dX3_isGoal_41 : decode cX3_isGoal 41 = .ok (.ireturn, 1) := by decide +kernel
theorem dX3_goTo_0 : decode cX3_goTo 0 = .ok (.iconst 0, 1) := by decide +kernel
theorem dX3_goTo_1 : decode cX3_goTo 1 = .ok (.istore 4, 2) := by decide +kernel
theorem dX3_goTo_3 : decode cX3_goTo 3 = .ok (.aload_n 0, 1) := by decide +kernel
theorem dX3_goTo_4 : decode cX3_goTo 4 = .ok (.aload_n 0, 1) := by decide +kernel
theorem dX3_goTo_5 : decode cX3_goTo 5 = .ok (.getfield 64, 3) := by decide +kernel
theorem dX3_goTo_8 : decode cX3_goTo 8 = .ok (.invokevirtual 183, 3) := by decide +kernel
theorem dX3_goTo_11 : decode cX3_goTo 11 = .ok (.iload_n 2, 1) := by decide +kernel
theorem dX3_goTo_12 : decode cX3_goTo 12 = .ok (.i2l, 1) := by decide +kernel
theorem dX3_goTo_13 : decode cX3_goTo 13 = .ok (.lmul, 1) := by decide +kernel
theorem dX3_goTo_14 : decode cX3_goTo 14 = .ok (.iload_n 1, 1) := by decide +kernel
theorem dX3_goTo_15 : decode cX3_goTo 15 = .ok (.i2l, 1) := by decide +kernel
theorem dX3_goTo_16 : decode cX3_goTo 16 = .ok (.aload_n 0, 1) := by decide +kernel
theorem dX3_goTo_17 : decode cX3_goTo 17 = .ok (.getfield 57, 3) := by decide +kernel
theorem dX3_goTo_20 : decode cX3_goTo 20 = .ok (.lmul, 1) := by decide +kernel
theorem dX3_goTo_21 : decode cX3_goTo 21 = .ok (.lcmp, 1) := by decide +kernel
theorem dX3_goTo_22 : decode cX3_goTo 22 = .ok (.ifCond .gt 7, 3) := by decide +kernel
theorem dX3_goTo_25 : decode cX3_goTo 25 = .ok (.iconst 1, 1) := by decide +kernel
theorem dX3_goTo_26 : decode cX3_goTo 26 = .ok (.goto 4, 3) := by decide +kernel
theorem dX3_goTo_29 : decode cX3_goTo 29 = .ok (.iconst 0, 1) := by decide +kernel
theorem dX3_goTo_30 : decode cX3_goTo 30 = .ok (.istore 5, 2) := by decide +kernel
theorem dX3_goTo_32 : decode cX3_goTo 32 = .ok (.iload 5, 2) := by decide +kernel
theorem dX3_goTo_34 : decode cX3_goTo 34 = .ok (.ifCond .ne 57, 3) := by decide +kernel
theorem dX3_goTo_37 : decode cX3_goTo 37 = .ok (.iload 4, 2) := by decide +kernel
theorem dX3_goTo_39 : decode cX3_goTo 39 = .ok (.iload_n 3, 1) := by decide +kernel
theorem dX3_goTo_40 : decode cX3_goTo 40 = .ok (.if_icmp .ge 51, 3) := by decide +kernel
theorem dX3_goTo_43 : decode cX3_goTo 43 = .ok (.aload_n 0, 1) := by decide +kernel
theorem dX3_goTo_44 : decode cX3_goTo 44 = .ok (.getfield 64, 3) := by decide +kernel
theorem dX3_goTo_47 : decode cX3_goTo 47 = .ok (.bipush 60, 2) := by decide +kernel
theorem dX3_goTo_49 : decode cX3_goTo 49 = .ok (.if_icmp .ge 42, 3) := by decide +kernel
theorem dX3_goTo_52 : decode cX3_goTo 52 = .ok (.aload_n 0, 1) := by decide +kernel
theorem dX3_goTo_53 : decode cX3_goTo 53 = .ok (.invokevirtual 180, 3) := by decide +kernel
theorem dX3_goTo_56 : decode cX3_goTo 56 = .ok (.iinc 4 1, 3) := by decide +kernel
theorem dX3_goTo_59 : decode cX3_goTo 59 = .ok (.aload_n 0, 1) := by decide +kernel
theorem dX3_goTo_60 : decode cX3_goTo 60 = .ok (.aload_n 0, 1) := by decide +kernel
theorem dX3_goTo_61 : decode cX3_goTo 61 = .ok (.getfield 64, 3) := by decide +kernel
theorem dX3_goTo_64 : decode cX3_goTo 64 = .ok (.invokevirtual 183, 3) := by decide +kernel
theorem dX3_goTo_67 : decode cX3_goTo 67 = .ok (.iload_n 2, 1) := by decide +kernel
theorem dX3_goTo_68 : decode cX3_goTo 68 = .ok (.i2l, 1) := by decide +kernel
theorem dX3_goTo_69 : decode cX3_goTo 69 = .ok (.lmul, 1) := by decide +kernel
theorem dX3_goTo_70 : decode cX3_goTo 70 = .ok (.iload_n 1, 1) := by decide +kernel
theorem dX3_goTo_71 : decode cX3_goTo 71 = .ok (.i2l, 1) := by decide +kernel
theorem dX3_goTo_72 : decode cX3_goTo 72 = .ok (.aload_n 0, 1) := by decide +kernel
theorem dX3_goTo_73 : decode cX3_goTo 73 = .ok (.getfield 57, 3) := by decide +kernel
theorem dX3_goTo_76 : decode cX3_goTo 76 = .ok (.lmul, 1) := by decide +kernel
theorem dX3_goTo_77 : decode cX3_goTo 77 = .ok (.lcmp, 1) := by decide +kernel
theorem dX3_goTo_78 : decode cX3_goTo 78 = .ok (.ifCond .gt 7, 3) := by decide +kernel
theorem dX3_goTo_81 : decode cX3_goTo 81 = .ok (.iconst 1, 1) := by decide +kernel
theorem dX3_goTo_82 : decode cX3_goTo 82 = .ok (.goto 4, 3) := by decide +kernel
theorem dX3_goTo_85 : decode cX3_goTo 85 = .ok (.iconst 0, 1) := by decide +kernel
theorem dX3_goTo_86 : decode cX3_goTo 86 = .ok (.istore 5, 2) := by decide +kernel
theorem dX3_goTo_88 : decode cX3_goTo 88 = .ok (.goto (-56), 3) := by decide +kernel
theorem dX3_goTo_91 : decode cX3_goTo 91 = .ok (.iload 5, 2) := by decide +kernel
theorem dX3_goTo_93 : decode cX3_goTo 93 = .ok (.ifCond .eq 8, 3) := by decide +kernel
theorem dX3_goTo_96 : decode cX3_goTo 96 = .ok (.iload 4, 2) := by decide +kernel
theorem dX3_goTo_98 : decode cX3_goTo 98 = .ok (.goto 4, 3) := by decide +kernel
theorem dX3_goTo_101 : decode cX3_goTo 101 = .ok (.iconst (-1), 1) := by decide +kernel
theorem dX3_goTo_102 : decode cX3_goTo 102 = .ok (.ireturn, 1) := by decide +kernel
theorem dX3_runTo_0 : decode cX3_runTo 0 = .ok (.iload_n 1, 1) := by decide +kernel
theorem dX3_runTo_1 : decode cX3_runTo 1 = .ok (.iload_n 2, 1) := by decide +kernel
theorem dX3_runTo_2 : decode cX3_runTo 2 = .ok (.iload_n 3, 1) := by decide +kernel
theorem dX3_runTo_3 : decode cX3_runTo 3 = .ok (.invokestatic 187, 3) := by decide +kernel
theorem dX3_runTo_6 : decode cX3_runTo 6 = .ok (.ifCond .ne 7, 3) := by decide +kernel
theorem dX3_runTo_9 : decode cX3_runTo 9 = .ok (.sipush (-1002), 3) := by decide +kernel
theorem dX3_runTo_12 : decode cX3_runTo 12 = .ok (.ireturn, 1) := by decide +kernel
theorem dX3_runTo_13 : decode cX3_runTo 13 = .ok (.aload_n 0, 1) := by decide +kernel
theorem dX3_runTo_14 : decode cX3_runTo 14 = .ok (.getfield 64, 3) := by decide +kernel
theorem dX3_runTo_17 : decode cX3_runTo 17 = .ok (.istore 4, 2) := by decide +kernel
theorem dX3_runTo_19 : decode cX3_runTo 19 = .ok (.aload_n 0, 1) := by decide +kernel
theorem dX3_runTo_20 : decode cX3_runTo 20 = .ok (.iload_n 1, 1) := by decide +kernel
theorem dX3_runTo_21 : decode cX3_runTo 21 = .ok (.iload_n 2, 1) := by decide +kernel
theorem dX3_runTo_22 : decode cX3_runTo 22 = .ok (.iload_n 3, 1) := by decide +kernel
theorem dX3_runTo_23 : decode cX3_runTo 23 = .ok (.invokevirtual 191, 3) := by decide +kernel
theorem dX3_runTo_26 : decode cX3_runTo 26 = .ok (.istore 5, 2) := by decide +kernel
theorem dX3_runTo_28 : decode cX3_runTo 28 = .ok (.aload_n 0, 1) := by decide +kernel
theorem dX3_runTo_29 : decode cX3_runTo 29 = .ok (.iload 5, 2) := by decide +kernel
theorem dX3_runTo_31 : decode cX3_runTo 31 = .ok (.ifCond .ge 8, 3) := by decide +kernel
theorem dX3_runTo_34 : decode cX3_runTo 34 = .ok (.iload 4, 2) := by decide +kernel
theorem dX3_runTo_36 : decode cX3_runTo 36 = .ok (.goto 7, 3) := by decide +kernel
theorem dX3_runTo_39 : decode cX3_runTo 39 = .ok (.aload_n 0, 1) := by decide +kernel
theorem dX3_runTo_40 : decode cX3_runTo 40 = .ok (.getfield 64, 3) := by decide +kernel
theorem dX3_runTo_43 : decode cX3_runTo 43 = .ok (.putfield 64, 3) := by decide +kernel
theorem dX3_runTo_46 : decode cX3_runTo 46 = .ok (.iload 5, 2) := by decide +kernel
theorem dX3_runTo_48 : decode cX3_runTo 48 = .ok (.ifCond .ge 9, 3) := by decide +kernel
theorem dX3_runTo_51 : decode cX3_runTo 51 = .ok (.sipush (-1005), 3) := by decide +kernel
theorem dX3_runTo_54 : decode cX3_runTo 54 = .ok (.goto 5, 3) := by decide +kernel
theorem dX3_runTo_57 : decode cX3_runTo 57 = .ok (.iload 5, 2) := by decide +kernel
theorem dX3_runTo_59 : decode cX3_runTo 59 = .ok (.ireturn, 1) := by decide +kernel
theorem dX3_back_0 : decode cX3_back 0 = .ok (.iload_n 1, 1) := by decide +kernel
theorem dX3_back_1 : decode cX3_back 1 = .ok (.i2l, 1) := by decide +kernel
theorem dX3_back_2 : decode cX3_back 2 = .ok (.lconst 0, 1) := by decide +kernel
theorem dX3_back_3 : decode cX3_back 3 = .ok (.aload_n 0, 1) := by decide +kernel
theorem dX3_back_4 : decode cX3_back 4 = .ok (.getfield 64, 3) := by decide +kernel
theorem dX3_back_7 : decode cX3_back 7 = .ok (.i2l, 1) := by decide +kernel
theorem dX3_back_8 : decode cX3_back 8 = .ok (.invokestatic 71, 3) := by decide +kernel
theorem dX3_back_11 : decode cX3_back 11 = .ok (.ifCond .ne 7, 3) := by decide +kernel
theorem dX3_back_14 : decode cX3_back 14 = .ok (.sipush (-1002), 3) := by decide +kernel
theorem dX3_back_17 : decode cX3_back 17 = .ok (.ireturn, 1) := by decide +kernel
theorem dX3_back_18 : decode cX3_back 18 = .ok (.aload_n 0, 1) := by decide +kernel
theorem dX3_back_19 : decode cX3_back 19 = .ok (.dup, 1) := by decide +kernel
theorem dX3_back_20 : decode cX3_back 20 = .ok (.getfield 64, 3) := by decide +kernel
theorem dX3_back_23 : decode cX3_back 23 = .ok (.iload_n 1, 1) := by decide +kernel
theorem dX3_back_24 : decode cX3_back 24 = .ok (.isub, 1) := by decide +kernel
theorem dX3_back_25 : decode cX3_back 25 = .ok (.putfield 64, 3) := by decide +kernel
theorem dX3_back_28 : decode cX3_back 28 = .ok (.aload_n 0, 1) := by decide +kernel
theorem dX3_back_29 : decode cX3_back 29 = .ok (.getfield 64, 3) := by decide +kernel
theorem dX3_back_32 : decode cX3_back 32 = .ok (.ireturn, 1) := by decide +kernel
theorem dX3_value_0 : decode cX3_value 0 = .ok (.aload_n 0, 1) := by decide +kernel
theorem dX3_value_1 : decode cX3_value 1 = .ok (.iload_n 1, 1) := by decide +kernel
theorem dX3_value_2 : decode cX3_value 2 = .ok (.invokevirtual 117, 3) := by decide +kernel
theorem dX3_value_5 : decode cX3_value 5 = .ok (.ifCond .ne 25, 3) := by decide +kernel
theorem dX3_value_8 : decode cX3_value 8 = .ok (.iload_n 2, 1) := by decide +kernel
theorem dX3_value_9 : decode cX3_value 9 = .ok (.i2l, 1) := by decide +kernel
theorem dX3_value_10 : decode cX3_value 10 = .ok (.lconst 0, 1) := by decide +kernel
theorem dX3_value_11 : decode cX3_value 11 = .ok (.aload_n 0, 1) := by decide +kernel
theorem dX3_value_12 : decode cX3_value 12 = .ok (.getfield 64, 3) := by decide +kernel
theorem dX3_value_15 : decode cX3_value 15 = .ok (.i2l, 1) := by decide +kernel
theorem dX3_value_16 : decode cX3_value 16 = .ok (.invokestatic 71, 3) := by decide +kernel
theorem dX3_value_19 : decode cX3_value 19 = .ok (.ifCond .eq 11, 3) := by decide +kernel
theorem dX3_value_22 : decode cX3_value 22 = .ok (.aload_n 0, 1) := by decide +kernel
theorem dX3_value_23 : decode cX3_value 23 = .ok (.iload_n 1, 1) := by decide +kernel
theorem dX3_value_24 : decode cX3_value 24 = .ok (.invokevirtual 133, 3) := by decide +kernel
theorem dX3_value_27 : decode cX3_value 27 = .ok (.ifCond .ne 7, 3) := by decide +kernel
theorem dX3_value_30 : decode cX3_value 30 = .ok (.invokestatic 195, 3) := by decide +kernel
theorem dX3_value_33 : decode cX3_value 33 = .ok (.lreturn, 1) := by decide +kernel
theorem dX3_value_34 : decode cX3_value 34 = .ok (.aload_n 0, 1) := by decide +kernel
theorem dX3_value_35 : decode cX3_value 35 = .ok (.iload_n 1, 1) := by decide +kernel
theorem dX3_value_36 : decode cX3_value 36 = .ok (.iload_n 2, 1) := by decide +kernel
theorem dX3_value_37 : decode cX3_value 37 = .ok (.iload_n 3, 1) := by decide +kernel
theorem dX3_value_38 : decode cX3_value 38 = .ok (.ifCond .eq 7, 3) := by decide +kernel
theorem dX3_value_41 : decode cX3_value 41 = .ok (.iconst 1, 1) := by decide +kernel
theorem dX3_value_42 : decode cX3_value 42 = .ok (.goto 4, 3) := by decide +kernel
theorem dX3_value_45 : decode cX3_value 45 = .ok (.iconst 0, 1) := by decide +kernel
theorem dX3_value_46 : decode cX3_value 46 = .ok (.invokevirtual 136, 3) := by decide +kernel
theorem dX3_value_49 : decode cX3_value 49 = .ok (.aload_n 0, 1) := by decide +kernel
theorem dX3_value_50 : decode cX3_value 50 = .ok (.getfield 57, 3) := by decide +kernel
theorem dX3_value_53 : decode cX3_value 53 = .ok (.iload 4, 2) := by decide +kernel
theorem dX3_value_55 : decode cX3_value 55 = .ok (.invokestatic 198, 3) := by decide +kernel
theorem dX3_value_58 : decode cX3_value 58 = .ok (.lreturn, 1) := by decide +kernel
theorem dX3_input_0 : decode cX3_input 0 = .ok (.aload_n 0, 1) := by decide +kernel
theorem dX3_input_1 : decode cX3_input 1 = .ok (.iload_n 1, 1) := by decide +kernel
theorem dX3_input_2 : decode cX3_input 2 = .ok (.invokevirtual 117, 3) := by decide +kernel
theorem dX3_input_5 : decode cX3_input 5 = .ok (.ifCond .eq 9, 3) := by decide +kernel
theorem dX3_input_8 : decode cX3_input 8 = .ok (.invokestatic 195, 3) := by decide +kernel
theorem dX3_input_11 : decode cX3_input 11 = .ok (.goto 29, 3) := by decide +kernel
theorem dX3_input_14 : decode cX3_input 14 = .ok (.aload_n 0, 1) := by decide +kernel
theorem dX3_input_15 : decode cX3_input 15 = .ok (.getfield 7, 3) := by decide +kernel
theorem dX3_input_18 : decode cX3_input 18 = .ok (.iconst 2, 1) := by decide +kernel
theorem dX3_input_19 : decode cX3_input 19 = .ok (.iload_n 1, 1) := by decide +kernel
theorem dX3_input_20 : decode cX3_input 20 = .ok (.imul, 1) := by decide +kernel
theorem dX3_input_21 : decode cX3_input 21 = .ok (.iload_n 2, 1) := by decide +kernel
theorem dX3_input_22 : decode cX3_input 22 = .ok (.ifCond .eq 7, 3) := by decide +kernel
theorem dX3_input_25 : decode cX3_input 25 = .ok (.iconst 1, 1) := by decide +kernel
theorem dX3_input_26 : decode cX3_input 26 = .ok (.goto 4, 3) := by decide +kernel
theorem dX3_input_29 : decode cX3_input 29 = .ok (.iconst 0, 1) := by decide +kernel
theorem dX3_input_30 : decode cX3_input 30 = .ok (.iadd, 1) := by decide +kernel
theorem dX3_input_31 : decode cX3_input 31 = .ok (.laload, 1) := by decide +kernel
theorem dX3_input_32 : decode cX3_input 32 = .ok (.aload_n 0, 1) := by decide +kernel
theorem dX3_input_33 : decode cX3_input 33 = .ok (.getfield 57, 3) := by decide +kernel
theorem dX3_input_36 : decode cX3_input 36 = .ok (.iload_n 3, 1) := by decide +kernel
theorem dX3_input_37 : decode cX3_input 37 = .ok (.invokestatic 198, 3) := by decide +kernel
theorem dX3_input_40 : decode cX3_input 40 = .ok (.lreturn, 1) := by decide +kernel
theorem dX3_noReceiver_0 : decode cX3_noReceiver 0 = .ok (.aload_n 0, 1) := by decide +kernel
theorem dX3_noReceiver_1 : decode cX3_noReceiver 1 = .ok (.iload_n 1, 1) := by decide +kernel
theorem dX3_noReceiver_2 : decode cX3_noReceiver 2 = .ok (.invokevirtual 117, 3) := by decide +kernel
theorem dX3_noReceiver_5 : decode cX3_noReceiver 5 = .ok (.ifCond .ne 11, 3) := by decide +kernel
theorem dX3_noReceiver_8 : decode cX3_noReceiver 8 = .ok (.aload_n 0, 1) := by decide +kernel
theorem dX3_noReceiver_9 : decode cX3_noReceiver 9 = .ok (.iload_n 1, 1) := by decide +kernel
theorem dX3_noReceiver_10 : decode cX3_noReceiver 10 = .ok (.invokevirtual 133, 3) := by decide +kernel
theorem dX3_noReceiver_13 : decode cX3_noReceiver 13 = .ok (.ifCond .ne 7, 3) := by decide +kernel
theorem dX3_noReceiver_16 : decode cX3_noReceiver 16 = .ok (.iconst 1, 1) := by decide +kernel
theorem dX3_noReceiver_17 : decode cX3_noReceiver 17 = .ok (.goto 4, 3) := by decide +kernel
theorem dX3_noReceiver_20 : decode cX3_noReceiver 20 = .ok (.iconst 0, 1) := by decide +kernel
theorem dX3_noReceiver_21 : decode cX3_noReceiver 21 = .ok (.ireturn, 1) := by decide +kernel
theorem dX3_received_0 : decode cX3_received 0 = .ok (.aload_n 0, 1) := by decide +kernel
theorem dX3_received_1 : decode cX3_received 1 = .ok (.iload_n 1, 1) := by decide +kernel
theorem dX3_received_2 : decode cX3_received 2 = .ok (.invokevirtual 202, 3) := by decide +kernel
theorem dX3_received_5 : decode cX3_received 5 = .ok (.ifCond .ne 20, 3) := by decide +kernel
theorem dX3_received_8 : decode cX3_received 8 = .ok (.aload_n 0, 1) := by decide +kernel
theorem dX3_received_9 : decode cX3_received 9 = .ok (.iload_n 2, 1) := by decide +kernel
theorem dX3_received_10 : decode cX3_received 10 = .ok (.invokevirtual 117, 3) := by decide +kernel
theorem dX3_received_13 : decode cX3_received 13 = .ok (.ifCond .ne 12, 3) := by decide +kernel
theorem dX3_received_16 : decode cX3_received 16 = .ok (.aload_n 0, 1) := by decide +kernel
theorem dX3_received_17 : decode cX3_received 17 = .ok (.iload_n 2, 1) := by decide +kernel
theorem dX3_received_18 : decode cX3_received 18 = .ok (.iload_n 1, 1) := by decide +kernel
theorem dX3_received_19 : decode cX3_received 19 = .ok (.invokevirtual 162, 3) := by decide +kernel
theorem dX3_received_22 : decode cX3_received 22 = .ok (.ifCond .ne 7, 3) := by decide +kernel
theorem dX3_received_25 : decode cX3_received 25 = .ok (.invokestatic 195, 3) := by decide +kernel
theorem dX3_received_28 : decode cX3_received 28 = .ok (.lreturn, 1) := by decide +kernel
theorem dX3_received_29 : decode cX3_received 29 = .ok (.aload_n 0, 1) := by decide +kernel
theorem dX3_received_30 : decode cX3_received 30 = .ok (.iload_n 2, 1) := by decide +kernel
theorem dX3_received_31 : decode cX3_received 31 = .ok (.iload_n 1, 1) := by decide +kernel
theorem dX3_received_32 : decode cX3_received 32 = .ok (.iload_n 3, 1) := by decide +kernel
theorem dX3_received_33 : decode cX3_received 33 = .ok (.ifCond .eq 7, 3) := by decide +kernel
theorem dX3_received_36 : decode cX3_received 36 = .ok (.iconst 1, 1) := by decide +kernel
theorem dX3_received_37 : decode cX3_received 37 = .ok (.goto 4, 3) := by decide +kernel
theorem dX3_received_40 : decode cX3_received 40 = .ok (.iconst 0, 1) := by decide +kernel
theorem dX3_received_41 : decode cX3_received 41 = .ok (.invokevirtual 165, 3) := by decide +kernel
theorem dX3_received_44 : decode cX3_received 44 = .ok (.aload_n 0, 1) := by decide +kernel
theorem dX3_received_45 : decode cX3_received 45 = .ok (.getfield 57, 3) := by decide +kernel
theorem dX3_received_48 : decode cX3_received 48 = .ok (.iload 4, 2) := by decide +kernel
theorem dX3_received_50 : decode cX3_received 50 = .ok (.invokestatic 198, 3) := by decide +kernel
theorem dX3_received_53 : decode cX3_received 53 = .ok (.lreturn, 1) := by decide +kernel
theorem dX3_rest_0 : decode cX3_rest 0 = .ok (.aload_n 0, 1) := by decide +kernel
theorem dX3_rest_1 : decode cX3_rest 1 = .ok (.iload_n 1, 1) := by decide +kernel
theorem dX3_rest_2 : decode cX3_rest 2 = .ok (.invokevirtual 202, 3) := by decide +kernel
theorem dX3_rest_5 : decode cX3_rest 5 = .ok (.ifCond .eq 7, 3) := by decide +kernel
theorem dX3_rest_8 : decode cX3_rest 8 = .ok (.invokestatic 195, 3) := by decide +kernel
theorem dX3_rest_11 : decode cX3_rest 11 = .ok (.lreturn, 1) := by decide +kernel
theorem dX3_rest_12 : decode cX3_rest 12 = .ok (.aload_n 0, 1) := by decide +kernel
theorem dX3_rest_13 : decode cX3_rest 13 = .ok (.iload_n 1, 1) := by decide +kernel
theorem dX3_rest_14 : decode cX3_rest 14 = .ok (.iload_n 3, 1) := by decide +kernel
theorem dX3_rest_15 : decode cX3_rest 15 = .ok (.ifCond .eq 7, 3) := by decide +kernel
theorem dX3_rest_18 : decode cX3_rest 18 = .ok (.iconst 1, 1) := by decide +kernel
theorem dX3_rest_19 : decode cX3_rest 19 = .ok (.goto 4, 3) := by decide +kernel
theorem dX3_rest_22 : decode cX3_rest 22 = .ok (.iconst 0, 1) := by decide +kernel
theorem dX3_rest_23 : decode cX3_rest 23 = .ok (.invokevirtual 171, 3) := by decide +kernel
theorem dX3_rest_26 : decode cX3_rest 26 = .ok (.iload_n 2, 1) := by decide +kernel
theorem dX3_rest_27 : decode cX3_rest 27 = .ok (.i2l, 1) := by decide +kernel
theorem dX3_rest_28 : decode cX3_rest 28 = .ok (.lconst 0, 1) := by decide +kernel
theorem dX3_rest_29 : decode cX3_rest 29 = .ok (.aload_n 0, 1) := by decide +kernel
theorem dX3_rest_30 : decode cX3_rest 30 = .ok (.getfield 159, 3) := by decide +kernel
theorem dX3_rest_33 : decode cX3_rest 33 = .ok (.iconst 2, 1) := by decide +kernel
theorem dX3_rest_34 : decode cX3_rest 34 = .ok (.aload_n 0, 1) := by decide +kernel
theorem dX3_rest_35 : decode cX3_rest 35 = .ok (.getfield 54, 3) := by decide +kernel
theorem dX3_rest_38 : decode cX3_rest 38 = .ok (.imul, 1) := by decide +kernel
theorem dX3_rest_39 : decode cX3_rest 39 = .ok (.isub, 1) := by decide +kernel
theorem dX3_rest_40 : decode cX3_rest 40 = .ok (.iconst 1, 1) := by decide +kernel
theorem dX3_rest_41 : decode cX3_rest 41 = .ok (.isub, 1) := by decide +kernel
theorem dX3_rest_42 : decode cX3_rest 42 = .ok (.i2l, 1) := by decide +kernel
theorem dX3_rest_43 : decode cX3_rest 43 = .ok (.invokestatic 71, 3) := by decide +kernel
theorem dX3_rest_46 : decode cX3_rest 46 = .ok (.ifCond .eq 26, 3) := by decide +kernel
theorem dX3_rest_49 : decode cX3_rest 49 = .ok (.aload_n 0, 1) := by decide +kernel
theorem dX3_rest_50 : decode cX3_rest 50 = .ok (.getfield 36, 3) := by decide +kernel
theorem dX3_rest_53 : decode cX3_rest 53 = .ok (.aload_n 0, 1) := by decide +kernel
theorem dX3_rest_54 : decode cX3_rest 54 = .ok (.getfield 54, 3) := by decide +kernel
theorem dX3_rest_57 : decode cX3_rest 57 = .ok (.iload_n 2, 1) := by decide +kernel
theorem dX3_rest_58 : decode cX3_rest 58 = .ok (.iadd, 1) := by decide +kernel
theorem dX3_rest_59 : decode cX3_rest 59 = .ok (.laload, 1) := by decide +kernel
theorem dX3_rest_60 : decode cX3_rest 60 = .ok (.aload_n 0, 1) := by decide +kernel
theorem dX3_rest_61 : decode cX3_rest 61 = .ok (.getfield 57, 3) := by decide +kernel
theorem dX3_rest_64 : decode cX3_rest 64 = .ok (.iload 4, 2) := by decide +kernel
theorem dX3_rest_66 : decode cX3_rest 66 = .ok (.invokestatic 198, 3) := by decide +kernel
theorem dX3_rest_69 : decode cX3_rest 69 = .ok (.goto 6, 3) := by decide +kernel
theorem dX3_rest_72 : decode cX3_rest 72 = .ok (.invokestatic 195, 3) := by decide +kernel
theorem dX3_rest_75 : decode cX3_rest 75 = .ok (.lreturn, 1) := by decide +kernel
theorem dX3_mostFrequent_0 : decode cX3_mostFrequent 0 = .ok (.iload_n 1, 1) := by decide +kernel
theorem dX3_mostFrequent_1 : decode cX3_mostFrequent 1 = .ok (.i2l, 1) := by decide +kernel
theorem dX3_mostFrequent_2 : decode cX3_mostFrequent 2 = .ok (.lconst 0, 1) := by decide +kernel
theorem dX3_mostFrequent_3 : decode cX3_mostFrequent 3 = .ok (.lconst 1, 1) := by decide +kernel
theorem dX3_mostFrequent_4 : decode cX3_mostFrequent 4 = .ok (.invokestatic 71, 3) := by decide +kernel
theorem dX3_mostFrequent_7 : decode cX3_mostFrequent 7 = .ok (.ifCond .ne 7, 3) := by decide +kernel
theorem dX3_mostFrequent_10 : decode cX3_mostFrequent 10 = .ok (.sipush (-1002), 3) := by decide +kernel
theorem dX3_mostFrequent_13 : decode cX3_mostFrequent 13 = .ok (.ireturn, 1) := by decide +kernel
theorem dX3_mostFrequent_14 : decode cX3_mostFrequent 14 = .ok (.iconst (-1), 1) := by decide +kernel
theorem dX3_mostFrequent_15 : decode cX3_mostFrequent 15 = .ok (.istore_n 2, 1) := by decide +kernel
theorem dX3_mostFrequent_16 : decode cX3_mostFrequent 16 = .ok (.iconst 0, 1) := by decide +kernel
theorem dX3_mostFrequent_17 : decode cX3_mostFrequent 17 = .ok (.istore_n 3, 1) := by decide +kernel
theorem dX3_mostFrequent_18 : decode cX3_mostFrequent 18 = .ok (.iconst 0, 1) := by decide +kernel
theorem dX3_mostFrequent_19 : decode cX3_mostFrequent 19 = .ok (.istore 4, 2) := by decide +kernel
theorem dX3_mostFrequent_21 : decode cX3_mostFrequent 21 = .ok (.iload 4, 2) := by decide +kernel
theorem dX3_mostFrequent_23 : decode cX3_mostFrequent 23 = .ok (.aload_n 0, 1) := by decide +kernel
theorem dX3_mostFrequent_24 : decode cX3_mostFrequent 24 = .ok (.getfield 50, 3) := by decide +kernel
theorem dX3_mostFrequent_27 : decode cX3_mostFrequent 27 = .ok (.if_icmp .ge 60, 3) := by decide +kernel
theorem dX3_mostFrequent_30 : decode cX3_mostFrequent 30 = .ok (.aload_n 0, 1) := by decide +kernel
theorem dX3_mostFrequent_31 : decode cX3_mostFrequent 31 = .ok (.iload 4, 2) := by decide +kernel
theorem dX3_mostFrequent_33 : decode cX3_mostFrequent 33 = .ok (.invokevirtual 133, 3) := by decide +kernel
theorem dX3_mostFrequent_36 : decode cX3_mostFrequent 36 = .ok (.ifCond .eq 16, 3) := by decide +kernel
theorem dX3_mostFrequent_39 : decode cX3_mostFrequent 39 = .ok (.aload_n 0, 1) := by decide +kernel
theorem dX3_mostFrequent_40 : decode cX3_mostFrequent 40 = .ok (.iload 4, 2) := by decide +kernel
theorem dX3_mostFrequent_42 : decode cX3_mostFrequent 42 = .ok (.aload_n 0, 1) := by decide +kernel
theorem dX3_mostFrequent_43 : decode cX3_mostFrequent 43 = .ok (.getfield 50, 3) := by decide +kernel
theorem dX3_mostFrequent_46 : decode cX3_mostFrequent 46 = .ok (.invokevirtual 143, 3) := by decide +kernel
theorem dX3_mostFrequent_49 : decode cX3_mostFrequent 49 = .ok (.goto 4, 3) := by decide +kernel
theorem dX3_mostFrequent_52 : decode cX3_mostFrequent 52 = .ok (.iconst 0, 1) := by decide +kernel
theorem dX3_mostFrequent_53 : decode cX3_mostFrequent 53 = .ok (.istore 5, 2) := by decide +kernel
theorem dX3_mostFrequent_55 : decode cX3_mostFrequent 55 = .ok (.iload 5, 2) := by decide +kernel
theorem dX3_mostFrequent_57 : decode cX3_mostFrequent 57 = .ok (.iload_n 3, 1) := by decide +kernel
theorem dX3_mostFrequent_58 : decode cX3_mostFrequent 58 = .ok (.if_icmp .le 8, 3) := by decide +kernel
theorem dX3_mostFrequent_61 : decode cX3_mostFrequent 61 = .ok (.iload 4, 2) := by decide +kernel
theorem dX3_mostFrequent_63 : decode cX3_mostFrequent 63 = .ok (.goto 4, 3) := by decide +kernel
theorem dX3_mostFrequent_66 : decode cX3_mostFrequent 66 = .ok (.iload_n 2, 1) := by decide +kernel
theorem dX3_mostFrequent_67 : decode cX3_mostFrequent 67 = .ok (.istore_n 2, 1) := by decide +kernel
theorem dX3_mostFrequent_68 : decode cX3_mostFrequent 68 = .ok (.iload 5, 2) := by decide +kernel
theorem dX3_mostFrequent_70 : decode cX3_mostFrequent 70 = .ok (.iload_n 3, 1) := by decide +kernel
theorem dX3_mostFrequent_71 : decode cX3_mostFrequent 71 = .ok (.if_icmp .le 8, 3) := by decide +kernel
theorem dX3_mostFrequent_74 : decode cX3_mostFrequent 74 = .ok (.iload 5, 2) := by decide +kernel
theorem dX3_mostFrequent_76 : decode cX3_mostFrequent 76 = .ok (.goto 4, 3) := by decide +kernel
theorem dX3_mostFrequent_79 : decode cX3_mostFrequent 79 = .ok (.iload_n 3, 1) := by decide +kernel
theorem dX3_mostFrequent_80 : decode cX3_mostFrequent 80 = .ok (.istore_n 3, 1) := by decide +kernel
theorem dX3_mostFrequent_81 : decode cX3_mostFrequent 81 = .ok (.iinc 4 1, 3) := by decide +kernel
theorem dX3_mostFrequent_84 : decode cX3_mostFrequent 84 = .ok (.goto (-63), 3) := by decide +kernel
theorem dX3_mostFrequent_87 : decode cX3_mostFrequent 87 = .ok (.iload_n 2, 1) := by decide +kernel
theorem dX3_mostFrequent_88 : decode cX3_mostFrequent 88 = .ok (.ifCond .ge 9, 3) := by decide +kernel
theorem dX3_mostFrequent_91 : decode cX3_mostFrequent 91 = .ok (.sipush (-1005), 3) := by decide +kernel
theorem dX3_mostFrequent_94 : decode cX3_mostFrequent 94 = .ok (.goto 12, 3) := by decide +kernel
theorem dX3_mostFrequent_97 : decode cX3_mostFrequent 97 = .ok (.iload_n 1, 1) := by decide +kernel
theorem dX3_mostFrequent_98 : decode cX3_mostFrequent 98 = .ok (.ifCond .ne 7, 3) := by decide +kernel
theorem dX3_mostFrequent_101 : decode cX3_mostFrequent 101 = .ok (.iload_n 2, 1) := by decide +kernel
theorem dX3_mostFrequent_102 : decode cX3_mostFrequent 102 = .ok (.goto 4, 3) := by decide +kernel
theorem dX3_mostFrequent_105 : decode cX3_mostFrequent 105 = .ok (.iload_n 3, 1) := by decide +kernel
theorem dX3_mostFrequent_106 : decode cX3_mostFrequent 106 = .ok (.ireturn, 1) := by decide +kernel
theorem dX3_width_0 : decode cX3_width 0 = .ok (.iload_n 1, 1) := by decide +kernel
theorem dX3_width_1 : decode cX3_width 1 = .ok (.i2l, 1) := by decide +kernel
theorem dX3_width_2 : decode cX3_width 2 = .ok (.lconst 0, 1) := by decide +kernel
theorem dX3_width_3 : decode cX3_width 3 = .ok (.aload_n 0, 1) := by decide +kernel
theorem dX3_width_4 : decode cX3_width 4 = .ok (.getfield 64, 3) := by decide +kernel
theorem dX3_width_7 : decode cX3_width 7 = .ok (.i2l, 1) := by decide +kernel
theorem dX3_width_8 : decode cX3_width 8 = .ok (.invokestatic 71, 3) := by decide +kernel
theorem dX3_width_11 : decode cX3_width 11 = .ok (.ifCond .eq 19, 3) := by decide +kernel
theorem dX3_width_14 : decode cX3_width 14 = .ok (.aload_n 0, 1) := by decide +kernel
theorem dX3_width_15 : decode cX3_width 15 = .ok (.iload_n 1, 1) := by decide +kernel
theorem dX3_width_16 : decode cX3_width 16 = .ok (.invokevirtual 183, 3) := by decide +kernel
theorem dX3_width_19 : decode cX3_width 19 = .ok (.aload_n 0, 1) := by decide +kernel
theorem dX3_width_20 : decode cX3_width 20 = .ok (.getfield 57, 3) := by decide +kernel
theorem dX3_width_23 : decode cX3_width 23 = .ok (.iload_n 2, 1) := by decide +kernel
theorem dX3_width_24 : decode cX3_width 24 = .ok (.invokestatic 198, 3) := by decide +kernel
theorem dX3_width_27 : decode cX3_width 27 = .ok (.goto 6, 3) := by decide +kernel
theorem dX3_width_30 : decode cX3_width 30 = .ok (.invokestatic 195, 3) := by decide +kernel
theorem dX3_width_33 : decode cX3_width 33 = .ok (.lreturn, 1) := by decide +kernel
theorem dX3_rate_0 : decode cX3_rate 0 = .ok (.iload_n 1, 1) := by decide +kernel
theorem dX3_rate_1 : decode cX3_rate 1 = .ok (.i2l, 1) := by decide +kernel
theorem dX3_rate_2 : decode cX3_rate 2 = .ok (.lconst 1, 1) := by decide +kernel
theorem dX3_rate_3 : decode cX3_rate 3 = .ok (.aload_n 0, 1) := by decide +kernel
theorem dX3_rate_4 : decode cX3_rate 4 = .ok (.getfield 64, 3) := by decide +kernel
theorem dX3_rate_7 : decode cX3_rate 7 = .ok (.i2l, 1) := by decide +kernel
theorem dX3_rate_8 : decode cX3_rate 8 = .ok (.invokestatic 71, 3) := by decide +kernel
theorem dX3_rate_11 : decode cX3_rate 11 = .ok (.ifCond .eq 15, 3) := by decide +kernel
theorem dX3_rate_14 : decode cX3_rate 14 = .ok (.aload_n 0, 1) := by decide +kernel
theorem dX3_rate_15 : decode cX3_rate 15 = .ok (.iload_n 1, 1) := by decide +kernel
theorem dX3_rate_16 : decode cX3_rate 16 = .ok (.iconst 1, 1) := by decide +kernel
theorem dX3_rate_17 : decode cX3_rate 17 = .ok (.isub, 1) := by decide +kernel
theorem dX3_rate_18 : decode cX3_rate 18 = .ok (.invokevirtual 183, 3) := by decide +kernel
theorem dX3_rate_21 : decode cX3_rate 21 = .ok (.lconst 0, 1) := by decide +kernel
theorem dX3_rate_22 : decode cX3_rate 22 = .ok (.lcmp, 1) := by decide +kernel
theorem dX3_rate_23 : decode cX3_rate 23 = .ok (.ifCond .ne 7, 3) := by decide +kernel
theorem dX3_rate_26 : decode cX3_rate 26 = .ok (.invokestatic 195, 3) := by decide +kernel
theorem dX3_rate_29 : decode cX3_rate 29 = .ok (.lreturn, 1) := by decide +kernel
theorem dX3_rate_30 : decode cX3_rate 30 = .ok (.aload_n 0, 1) := by decide +kernel
theorem dX3_rate_31 : decode cX3_rate 31 = .ok (.iload_n 1, 1) := by decide +kernel
theorem dX3_rate_32 : decode cX3_rate 32 = .ok (.invokevirtual 183, 3) := by decide +kernel
theorem dX3_rate_35 : decode cX3_rate 35 = .ok (.aload_n 0, 1) := by decide +kernel
theorem dX3_rate_36 : decode cX3_rate 36 = .ok (.iload_n 1, 1) := by decide +kernel
theorem dX3_rate_37 : decode cX3_rate 37 = .ok (.iconst 1, 1) := by decide +kernel
theorem dX3_rate_38 : decode cX3_rate 38 = .ok (.isub, 1) := by decide +kernel
theorem dX3_rate_39 : decode cX3_rate 39 = .ok (.invokevirtual 183, 3) := by decide +kernel
theorem dX3_rate_42 : decode cX3_rate 42 = .ok (.iload_n 2, 1) := by decide +kernel
theorem dX3_rate_43 : decode cX3_rate 43 = .ok (.invokestatic 198, 3) := by decide +kernel
theorem dX3_rate_46 : decode cX3_rate 46 = .ok (.lreturn, 1) := by decide +kernel
theorem dX3_guarantee_0 : decode cX3_guarantee 0 = .ok (.aload_n 0, 1) := by decide +kernel
theorem dX3_guarantee_1 : decode cX3_guarantee 1 = .ok (.invokevirtual 147, 3) := by decide +kernel
theorem dX3_guarantee_4 : decode cX3_guarantee 4 = .ok (.aload_n 0, 1) := by decide +kernel
theorem dX3_guarantee_5 : decode cX3_guarantee 5 = .ok (.getfield 54, 3) := by decide +kernel
theorem dX3_guarantee_8 : decode cX3_guarantee 8 = .ok (.if_icmp .gt 28, 3) := by decide +kernel
theorem dX3_guarantee_11 : decode cX3_guarantee 11 = .ok (.aload_n 0, 1) := by decide +kernel
theorem dX3_guarantee_12 : decode cX3_guarantee 12 = .ok (.getfield 50, 3) := by decide +kernel
theorem dX3_guarantee_15 : decode cX3_guarantee 15 = .ok (.iconst 3, 1) := by decide +kernel
theorem dX3_guarantee_16 : decode cX3_guarantee 16 = .ok (.aload_n 0, 1) := by decide +kernel
theorem dX3_guarantee_17 : decode cX3_guarantee 17 = .ok (.getfield 54, 3) := by decide +kernel
theorem dX3_guarantee_20 : decode cX3_guarantee 20 = .ok (.imul, 1) := by decide +kernel
theorem dX3_guarantee_21 : decode cX3_guarantee 21 = .ok (.if_icmp .le 15, 3) := by decide +kernel
theorem dX3_guarantee_24 : decode cX3_guarantee 24 = .ok (.aload_n 0, 1) := by decide +kernel
theorem dX3_guarantee_25 : decode cX3_guarantee 25 = .ok (.getfield 61, 3) := by decide +kernel
theorem dX3_guarantee_28 : decode cX3_guarantee 28 = .ok (.iconst 2, 1) := by decide +kernel
theorem dX3_guarantee_29 : decode cX3_guarantee 29 = .ok (.if_icmp .eq 7, 3) := by decide +kernel
theorem dX3_guarantee_32 : decode cX3_guarantee 32 = .ok (.iconst 1, 1) := by decide +kernel
theorem dX3_guarantee_33 : decode cX3_guarantee 33 = .ok (.goto 4, 3) := by decide +kernel
theorem dX3_guarantee_36 : decode cX3_guarantee 36 = .ok (.iconst 0, 1) := by decide +kernel
theorem dX3_guarantee_37 : decode cX3_guarantee 37 = .ok (.istore_n 2, 1) := by decide +kernel
theorem dX3_guarantee_38 : decode cX3_guarantee 38 = .ok (.iconst 0, 1) := by decide +kernel
theorem dX3_guarantee_39 : decode cX3_guarantee 39 = .ok (.istore_n 3, 1) := by decide +kernel
theorem dX3_guarantee_40 : decode cX3_guarantee 40 = .ok (.iload_n 3, 1) := by decide +kernel
theorem dX3_guarantee_41 : decode cX3_guarantee 41 = .ok (.aload_n 0, 1) := by decide +kernel
theorem dX3_guarantee_42 : decode cX3_guarantee 42 = .ok (.getfield 50, 3) := by decide +kernel
theorem dX3_guarantee_45 : decode cX3_guarantee 45 = .ok (.if_icmp .ge 58, 3) := by decide +kernel
theorem dX3_guarantee_48 : decode cX3_guarantee 48 = .ok (.iconst 0, 1) := by decide +kernel
theorem dX3_guarantee_49 : decode cX3_guarantee 49 = .ok (.istore 4, 2) := by decide +kernel
theorem dX3_guarantee_51 : decode cX3_guarantee 51 = .ok (.iload 4, 2) := by decide +kernel
theorem dX3_guarantee_53 : decode cX3_guarantee 53 = .ok (.aload_n 0, 1) := by decide +kernel
theorem dX3_guarantee_54 : decode cX3_guarantee 54 = .ok (.getfield 50, 3) := by decide +kernel
theorem dX3_guarantee_57 : decode cX3_guarantee 57 = .ok (.if_icmp .ge 40, 3) := by decide +kernel
theorem dX3_guarantee_60 : decode cX3_guarantee 60 = .ok (.iload_n 2, 1) := by decide +kernel
theorem dX3_guarantee_61 : decode cX3_guarantee 61 = .ok (.ifCond .eq 28, 3) := by decide +kernel
theorem dX3_guarantee_64 : decode cX3_guarantee 64 = .ok (.iload_n 3, 1) := by decide +kernel
theorem dX3_guarantee_65 : decode cX3_guarantee 65 = .ok (.iload 4, 2) := by decide +kernel
theorem dX3_guarantee_67 : decode cX3_guarantee 67 = .ok (.if_icmp .eq 18, 3) := by decide +kernel
theorem dX3_guarantee_70 : decode cX3_guarantee 70 = .ok (.aload_n 0, 1) := by decide +kernel
theorem dX3_guarantee_71 : decode cX3_guarantee 71 = .ok (.getfield 26, 3) := by decide +kernel
theorem dX3_guarantee_74 : decode cX3_guarantee 74 = .ok (.bipush 10, 2) := by decide +kernel
theorem dX3_guarantee_76 : decode cX3_guarantee 76 = .ok (.iload_n 3, 1) := by decide +kernel
theorem dX3_guarantee_77 : decode cX3_guarantee 77 = .ok (.imul, 1) := by decide +kernel
theorem dX3_guarantee_78 : decode cX3_guarantee 78 = .ok (.iload 4, 2) := by decide +kernel
theorem dX3_guarantee_80 : decode cX3_guarantee 80 = .ok (.iadd, 1) := by decide +kernel
theorem dX3_guarantee_81 : decode cX3_guarantee 81 = .ok (.iaload, 1) := by decide +kernel
theorem dX3_guarantee_82 : decode cX3_guarantee 82 = .ok (.ifCond .ne 7, 3) := by decide +kernel
theorem dX3_guarantee_85 : decode cX3_guarantee 85 = .ok (.iconst 1, 1) := by decide +kernel
theorem dX3_guarantee_86 : decode cX3_guarantee 86 = .ok (.goto 4, 3) := by decide +kernel
theorem dX3_guarantee_89 : decode cX3_guarantee 89 = .ok (.iconst 0, 1) := by decide +kernel
theorem dX3_guarantee_90 : decode cX3_guarantee 90 = .ok (.istore_n 2, 1) := by decide +kernel
theorem dX3_guarantee_91 : decode cX3_guarantee 91 = .ok (.iinc 4 1, 3) := by decide +kernel
theorem dX3_guarantee_94 : decode cX3_guarantee 94 = .ok (.goto (-43), 3) := by decide +kernel
theorem dX3_guarantee_97 : decode cX3_guarantee 97 = .ok (.iinc 3 1, 3) := by decide +kernel
theorem dX3_guarantee_100 : decode cX3_guarantee 100 = .ok (.goto (-60), 3) := by decide +kernel
theorem dX3_guarantee_103 : decode cX3_guarantee 103 = .ok (.iload_n 2, 1) := by decide +kernel
theorem dX3_guarantee_104 : decode cX3_guarantee 104 = .ok (.ifCond .ne 7, 3) := by decide +kernel
theorem dX3_guarantee_107 : decode cX3_guarantee 107 = .ok (.invokestatic 195, 3) := by decide +kernel
theorem dX3_guarantee_110 : decode cX3_guarantee 110 = .ok (.lreturn, 1) := by decide +kernel
theorem dX3_guarantee_111 : decode cX3_guarantee 111 = .ok (.aload_n 0, 1) := by decide +kernel
theorem dX3_guarantee_112 : decode cX3_guarantee 112 = .ok (.getfield 54, 3) := by decide +kernel
theorem dX3_guarantee_115 : decode cX3_guarantee 115 = .ok (.ifCond .ne 13, 3) := by decide +kernel
theorem dX3_guarantee_118 : decode cX3_guarantee 118 = .ok (.iload_n 1, 1) := by decide +kernel
theorem dX3_guarantee_119 : decode cX3_guarantee 119 = .ok (.ifCond .eq 7, 3) := by decide +kernel
theorem dX3_guarantee_122 : decode cX3_guarantee 122 = .ok (.lconst 1, 1) := by decide +kernel
theorem dX3_guarantee_123 : decode cX3_guarantee 123 = .ok (.goto 4, 3) := by decide +kernel
theorem dX3_guarantee_126 : decode cX3_guarantee 126 = .ok (.lconst 0, 1) := by decide +kernel
theorem dX3_guarantee_127 : decode cX3_guarantee 127 = .ok (.lreturn, 1) := by decide +kernel
theorem dX3_guarantee_128 : decode cX3_guarantee 128 = .ok (.aload_n 0, 1) := by decide +kernel
theorem dX3_guarantee_129 : decode cX3_guarantee 129 = .ok (.getfield 61, 3) := by decide +kernel
theorem dX3_guarantee_132 : decode cX3_guarantee 132 = .ok (.ifCond .ne 25, 3) := by decide +kernel
theorem dX3_guarantee_135 : decode cX3_guarantee 135 = .ok (.aload_n 0, 1) := by decide +kernel
theorem dX3_guarantee_136 : decode cX3_guarantee 136 = .ok (.getfield 54, 3) := by decide +kernel
theorem dX3_guarantee_139 : decode cX3_guarantee 139 = .ok (.i2l, 1) := by decide +kernel
theorem dX3_guarantee_140 : decode cX3_guarantee 140 = .ok (.aload_n 0, 1) := by decide +kernel
theorem dX3_guarantee_141 : decode cX3_guarantee 141 = .ok (.getfield 50, 3) := by decide +kernel
theorem dX3_guarantee_144 : decode cX3_guarantee 144 = .ok (.iconst 2, 1) := by decide +kernel
theorem dX3_guarantee_145 : decode cX3_guarantee 145 = .ok (.aload_n 0, 1) := by decide +kernel
theorem dX3_guarantee_146 : decode cX3_guarantee 146 = .ok (.getfield 54, 3) := by decide +kernel
theorem dX3_guarantee_149 : decode cX3_guarantee 149 = .ok (.imul, 1) := by decide +kernel
theorem dX3_guarantee_150 : decode cX3_guarantee 150 = .ok (.isub, 1) := by decide +kernel
theorem dX3_guarantee_151 : decode cX3_guarantee 151 = .ok (.i2l, 1) := by decide +kernel
theorem dX3_guarantee_152 : decode cX3_guarantee 152 = .ok (.iload_n 1, 1) := by decide +kernel
theorem dX3_guarantee_153 : decode cX3_guarantee 153 = .ok (.invokestatic 198, 3) := by decide +kernel
theorem dX3_guarantee_156 : decode cX3_guarantee 156 = .ok (.lreturn, 1) := by decide +kernel
theorem dX3_guarantee_157 : decode cX3_guarantee 157 = .ok (.iload_n 1, 1) := by decide +kernel
theorem dX3_guarantee_158 : decode cX3_guarantee 158 = .ok (.ifCond .eq 41, 3) := by decide +kernel
theorem dX3_guarantee_161 : decode cX3_guarantee 161 = .ok (.aload_n 0, 1) := by decide +kernel
theorem dX3_guarantee_162 : decode cX3_guarantee 162 = .ok (.getfield 61, 3) := by decide +kernel
theorem dX3_guarantee_165 : decode cX3_guarantee 165 = .ok (.iconst 1, 1) := by decide +kernel
theorem dX3_guarantee_166 : decode cX3_guarantee 166 = .ok (.if_icmp .ne 9, 3) := by decide +kernel
theorem dX3_guarantee_169 : decode cX3_guarantee 169 = .ok (.ldc2_w 67, 3) := by decide +kernel
theorem dX3_guarantee_172 : decode cX3_guarantee 172 = .ok (.goto 28, 3) := by decide +kernel
theorem dX3_guarantee_175 : decode cX3_guarantee 175 = .ok (.aload_n 0, 1) := by decide +kernel
theorem dX3_guarantee_176 : decode cX3_guarantee 176 = .ok (.getfield 50, 3) := by decide +kernel
theorem dX3_guarantee_179 : decode cX3_guarantee 179 = .ok (.iconst 2, 1) := by decide +kernel
theorem dX3_guarantee_180 : decode cX3_guarantee 180 = .ok (.aload_n 0, 1) := by decide +kernel
theorem dX3_guarantee_181 : decode cX3_guarantee 181 = .ok (.getfield 54, 3) := by decide +kernel
theorem dX3_guarantee_184 : decode cX3_guarantee 184 = .ok (.imul, 1) := by decide +kernel
theorem dX3_guarantee_185 : decode cX3_guarantee 185 = .ok (.isub, 1) := by decide +kernel
theorem dX3_guarantee_186 : decode cX3_guarantee 186 = .ok (.iconst 1, 1) := by decide +kernel
theorem dX3_guarantee_187 : decode cX3_guarantee 187 = .ok (.isub, 1) := by decide +kernel
theorem dX3_guarantee_188 : decode cX3_guarantee 188 = .ok (.aload_n 0, 1) := by decide +kernel
theorem dX3_guarantee_189 : decode cX3_guarantee 189 = .ok (.getfield 54, 3) := by decide +kernel
theorem dX3_guarantee_192 : decode cX3_guarantee 192 = .ok (.idiv, 1) := by decide +kernel
theorem dX3_guarantee_193 : decode cX3_guarantee 193 = .ok (.iconst 1, 1) := by decide +kernel
theorem dX3_guarantee_194 : decode cX3_guarantee 194 = .ok (.iadd, 1) := by decide +kernel
theorem dX3_guarantee_195 : decode cX3_guarantee 195 = .ok (.i2l, 1) := by decide +kernel
theorem dX3_guarantee_196 : decode cX3_guarantee 196 = .ok (.goto 4, 3) := by decide +kernel
theorem dX3_guarantee_199 : decode cX3_guarantee 199 = .ok (.lconst 1, 1) := by decide +kernel
theorem dX3_guarantee_200 : decode cX3_guarantee 200 = .ok (.lreturn, 1) := by decide +kernel
theorem dX3_hull_0 : decode cX3_hull 0 = .ok (.aload_n 0, 1) := by decide +kernel
theorem dX3_hull_1 : decode cX3_hull 1 = .ok (.invokevirtual 147, 3) := by decide +kernel
theorem dX3_hull_4 : decode cX3_hull 4 = .ok (.aload_n 0, 1) := by decide +kernel
theorem dX3_hull_5 : decode cX3_hull 5 = .ok (.getfield 50, 3) := by decide +kernel
theorem dX3_hull_8 : decode cX3_hull 8 = .ok (.if_icmp .ne 9, 3) := by decide +kernel
theorem dX3_hull_11 : decode cX3_hull 11 = .ok (.invokestatic 195, 3) := by decide +kernel
theorem dX3_hull_14 : decode cX3_hull 14 = .ok (.goto 25, 3) := by decide +kernel
theorem dX3_hull_17 : decode cX3_hull 17 = .ok (.aload_n 0, 1) := by decide +kernel
theorem dX3_hull_18 : decode cX3_hull 18 = .ok (.iconst (-1), 1) := by decide +kernel
theorem dX3_hull_19 : decode cX3_hull 19 = .ok (.iload_n 1, 1) := by decide +kernel
theorem dX3_hull_20 : decode cX3_hull 20 = .ok (.ifCond .eq 7, 3) := by decide +kernel
theorem dX3_hull_23 : decode cX3_hull 23 = .ok (.iconst 1, 1) := by decide +kernel
theorem dX3_hull_24 : decode cX3_hull 24 = .ok (.goto 4, 3) := by decide +kernel
theorem dX3_hull_27 : decode cX3_hull 27 = .ok (.iconst 0, 1) := by decide +kernel
theorem dX3_hull_28 : decode cX3_hull 28 = .ok (.invokevirtual 153, 3) := by decide +kernel
theorem dX3_hull_31 : decode cX3_hull 31 = .ok (.aload_n 0, 1) := by decide +kernel
theorem dX3_hull_32 : decode cX3_hull 32 = .ok (.getfield 57, 3) := by decide +kernel
theorem dX3_hull_35 : decode cX3_hull 35 = .ok (.iload_n 2, 1) := by decide +kernel
theorem dX3_hull_36 : decode cX3_hull 36 = .ok (.invokestatic 198, 3) := by decide +kernel
theorem dX3_hull_39 : decode cX3_hull 39 = .ok (.lreturn, 1) := by decide +kernel
theorem dX3_outside_0 : decode cX3_outside 0 = .ok (.iconst 0, 1) := by decide +kernel
theorem dX3_outside_1 : decode cX3_outside 1 = .ok (.istore_n 1, 1) := by decide +kernel
theorem dX3_outside_2 : decode cX3_outside 2 = .ok (.aload_n 0, 1) := by decide +kernel
theorem dX3_outside_3 : decode cX3_outside 3 = .ok (.iconst (-1), 1) := by decide +kernel
theorem dX3_outside_4 : decode cX3_outside 4 = .ok (.iconst 0, 1) := by decide +kernel
theorem dX3_outside_5 : decode cX3_outside 5 = .ok (.invokevirtual 153, 3) := by decide +kernel
theorem dX3_outside_8 : decode cX3_outside 8 = .ok (.lstore_n 2, 1) := by decide +kernel
theorem dX3_outside_9 : decode cX3_outside 9 = .ok (.aload_n 0, 1) := by decide +kernel
theorem dX3_outside_10 : decode cX3_outside 10 = .ok (.iconst (-1), 1) := by decide +kernel
theorem dX3_outside_11 : decode cX3_outside 11 = .ok (.iconst 1, 1) := by decide +kernel
theorem dX3_outside_12 : decode cX3_outside 12 = .ok (.invokevirtual 153, 3) := by decide +kernel
theorem dX3_outside_15 : decode cX3_outside 15 = .ok (.lstore 4, 2) := by decide +kernel
theorem dX3_outside_17 : decode cX3_outside 17 = .ok (.iconst 0, 1) := by decide +kernel
theorem dX3_outside_18 : decode cX3_outside 18 = .ok (.istore 6, 2) := by decide +kernel
theorem dX3_outside_20 : decode cX3_outside 20 = .ok (.iload 6, 2) := by decide +kernel
theorem dX3_outside_22 : decode cX3_outside 22 = .ok (.aload_n 0, 1) := by decide +kernel
theorem dX3_outside_23 : decode cX3_outside 23 = .ok (.getfield 50, 3) := by decide +kernel
theorem dX3_outside_26 : decode cX3_outside 26 = .ok (.if_icmp .ge 62, 3) := by decide +kernel
theorem dX3_outside_29 : decode cX3_outside 29 = .ok (.iload_n 1, 1) := by decide +kernel
theorem dX3_outside_30 : decode cX3_outside 30 = .ok (.aload_n 0, 1) := by decide +kernel
theorem dX3_outside_31 : decode cX3_outside 31 = .ok (.iload 6, 2) := by decide +kernel
theorem dX3_outside_33 : decode cX3_outside 33 = .ok (.invokevirtual 133, 3) := by decide +kernel
theorem dX3_outside_36 : decode cX3_outside 36 = .ok (.ifCond .eq 43, 3) := by decide +kernel
theorem dX3_outside_39 : decode cX3_outside 39 = .ok (.aload_n 0, 1) := by decide +kernel
theorem dX3_outside_40 : decode cX3_outside 40 = .ok (.iload 6, 2) := by decide +kernel
theorem dX3_outside_42 : decode cX3_outside 42 = .ok (.aload_n 0, 1) := by decide +kernel
theorem dX3_outside_43 : decode cX3_outside 43 = .ok (.getfield 64, 3) := by decide +kernel
theorem dX3_outside_46 : decode cX3_outside 46 = .ok (.iconst 0, 1) := by decide +kernel
theorem dX3_outside_47 : decode cX3_outside 47 = .ok (.invokevirtual 136, 3) := by decide +kernel
theorem dX3_outside_50 : decode cX3_outside 50 = .ok (.lload_n 2, 1) := by decide +kernel
theorem dX3_outside_51 : decode cX3_outside 51 = .ok (.lcmp, 1) := by decide +kernel
theorem dX3_outside_52 : decode cX3_outside 52 = .ok (.ifCond .lt 20, 3) := by decide +kernel
theorem dX3_outside_55 : decode cX3_outside 55 = .ok (.aload_n 0, 1) := by decide +kernel
theorem dX3_outside_56 : decode cX3_outside 56 = .ok (.iload 6, 2) := by decide +kernel
theorem dX3_outside_58 : decode cX3_outside 58 = .ok (.aload_n 0, 1) := by decide +kernel
theorem dX3_outside_59 : decode cX3_outside 59 = .ok (.getfield 64, 3) := by decide +kernel
theorem dX3_outside_62 : decode cX3_outside 62 = .ok (.iconst 1, 1) := by decide +kernel
theorem dX3_outside_63 : decode cX3_outside 63 = .ok (.invokevirtual 136, 3) := by decide +kernel
theorem dX3_outside_66 : decode cX3_outside 66 = .ok (.lload 4, 2) := by decide +kernel
theorem dX3_outside_68 : decode cX3_outside 68 = .ok (.lcmp, 1) := by decide +kernel
theorem dX3_outside_69 : decode cX3_outside 69 = .ok (.ifCond .le 10, 3) := by decide +kernel
theorem dX3_outside_72 : decode cX3_outside 72 = .ok (.iconst 1, 1) := by decide +kernel
theorem dX3_outside_73 : decode cX3_outside 73 = .ok (.iload 6, 2) := by decide +kernel
theorem dX3_outside_75 : decode cX3_outside 75 = .ok (.ishl, 1) := by decide +kernel
theorem dX3_outside_76 : decode cX3_outside 76 = .ok (.goto 4, 3) := by decide +kernel
theorem dX3_outside_79 : decode cX3_outside 79 = .ok (.iconst 0, 1) := by decide +kernel
theorem dX3_outside_80 : decode cX3_outside 80 = .ok (.ior, 1) := by decide +kernel
theorem dX3_outside_81 : decode cX3_outside 81 = .ok (.istore_n 1, 1) := by decide +kernel
theorem dX3_outside_82 : decode cX3_outside 82 = .ok (.iinc 6 1, 3) := by decide +kernel
theorem dX3_outside_85 : decode cX3_outside 85 = .ok (.goto (-65), 3) := by decide +kernel
theorem dX3_outside_88 : decode cX3_outside 88 = .ok (.iload_n 1, 1) := by decide +kernel
theorem dX3_outside_89 : decode cX3_outside 89 = .ok (.ireturn, 1) := by decide +kernel
theorem dX3_roundsTo_0 : decode cX3_roundsTo 0 = .ok (.iload_n 1, 1) := by decide +kernel
theorem dX3_roundsTo_1 : decode cX3_roundsTo 1 = .ok (.iload_n 2, 1) := by decide +kernel
theorem dX3_roundsTo_2 : decode cX3_roundsTo 2 = .ok (.iload_n 3, 1) := by decide +kernel
theorem dX3_roundsTo_3 : decode cX3_roundsTo 3 = .ok (.invokestatic 187, 3) := by decide +kernel
theorem dX3_roundsTo_6 : decode cX3_roundsTo 6 = .ok (.ifCond .ne 7, 3) := by decide +kernel
theorem dX3_roundsTo_9 : decode cX3_roundsTo 9 = .ok (.sipush (-1002), 3) := by decide +kernel
theorem dX3_roundsTo_12 : decode cX3_roundsTo 12 = .ok (.ireturn, 1) := by decide +kernel
theorem dX3_roundsTo_13 : decode cX3_roundsTo 13 = .ok (.aload_n 0, 1) := by decide +kernel
theorem dX3_roundsTo_14 : decode cX3_roundsTo 14 = .ok (.getfield 64, 3) := by decide +kernel
theorem dX3_roundsTo_17 : decode cX3_roundsTo 17 = .ok (.istore 4, 2) := by decide +kernel
theorem dX3_roundsTo_19 : decode cX3_roundsTo 19 = .ok (.aload_n 0, 1) := by decide +kernel
theorem dX3_roundsTo_20 : decode cX3_roundsTo 20 = .ok (.iload_n 1, 1) := by decide +kernel
theorem dX3_roundsTo_21 : decode cX3_roundsTo 21 = .ok (.iload_n 2, 1) := by decide +kernel
theorem dX3_roundsTo_22 : decode cX3_roundsTo 22 = .ok (.iload_n 3, 1) := by decide +kernel
theorem dX3_roundsTo_23 : decode cX3_roundsTo 23 = .ok (.invokevirtual 191, 3) := by decide +kernel
theorem dX3_roundsTo_26 : decode cX3_roundsTo 26 = .ok (.istore 5, 2) := by decide +kernel
theorem dX3_roundsTo_28 : decode cX3_roundsTo 28 = .ok (.aload_n 0, 1) := by decide +kernel
theorem dX3_roundsTo_29 : decode cX3_roundsTo 29 = .ok (.iload 4, 2) := by decide +kernel
theorem dX3_roundsTo_31 : decode cX3_roundsTo 31 = .ok (.putfield 64, 3) := by decide +kernel
theorem dX3_roundsTo_34 : decode cX3_roundsTo 34 = .ok (.iload 5, 2) := by decide +kernel
theorem dX3_roundsTo_36 : decode cX3_roundsTo 36 = .ok (.ifCond .ge 9, 3) := by decide +kernel
theorem dX3_roundsTo_39 : decode cX3_roundsTo 39 = .ok (.sipush (-1005), 3) := by decide +kernel
theorem dX3_roundsTo_42 : decode cX3_roundsTo 42 = .ok (.goto 5, 3) := by decide +kernel
theorem dX3_roundsTo_45 : decode cX3_roundsTo 45 = .ok (.iload 5, 2) := by decide +kernel
theorem dX3_roundsTo_47 : decode cX3_roundsTo 47 = .ok (.ireturn, 1) := by decide +kernel
theorem dX3_widthAfter_0 : decode cX3_widthAfter 0 = .ok (.aload_n 0, 1) := by decide +kernel
theorem dX3_widthAfter_1 : decode cX3_widthAfter 1 = .ok (.getfield 64, 3) := by decide +kernel
theorem dX3_widthAfter_4 : decode cX3_widthAfter 4 = .ok (.istore_n 2, 1) := by decide +kernel
theorem dX3_widthAfter_5 : decode cX3_widthAfter 5 = .ok (.iconst 0, 1) := by decide +kernel
theorem dX3_widthAfter_6 : decode cX3_widthAfter 6 = .ok (.istore_n 3, 1) := by decide +kernel
theorem dX3_widthAfter_7 : decode cX3_widthAfter 7 = .ok (.iload_n 3, 1) := by decide +kernel
theorem dX3_widthAfter_8 : decode cX3_widthAfter 8 = .ok (.iload_n 1, 1) := by decide +kernel
theorem dX3_widthAfter_9 : decode cX3_widthAfter 9 = .ok (.if_icmp .ge 13, 3) := by decide +kernel
theorem dX3_widthAfter_12 : decode cX3_widthAfter 12 = .ok (.aload_n 0, 1) := by decide +kernel
theorem dX3_widthAfter_13 : decode cX3_widthAfter 13 = .ok (.invokevirtual 180, 3) := by decide +kernel
theorem dX3_widthAfter_16 : decode cX3_widthAfter 16 = .ok (.iinc 3 1, 3) := by decide +kernel
theorem dX3_widthAfter_19 : decode cX3_widthAfter 19 = .ok (.goto (-12), 3) := by decide +kernel
theorem dX3_widthAfter_22 : decode cX3_widthAfter 22 = .ok (.aload_n 0, 1) := by decide +kernel
theorem dX3_widthAfter_23 : decode cX3_widthAfter 23 = .ok (.aload_n 0, 1) := by decide +kernel
theorem dX3_widthAfter_24 : decode cX3_widthAfter 24 = .ok (.getfield 64, 3) := by decide +kernel
theorem dX3_widthAfter_27 : decode cX3_widthAfter 27 = .ok (.invokevirtual 183, 3) := by decide +kernel
theorem dX3_widthAfter_30 : decode cX3_widthAfter 30 = .ok (.lstore_n 3, 1) := by decide +kernel
theorem dX3_widthAfter_31 : decode cX3_widthAfter 31 = .ok (.aload_n 0, 1) := by decide +kernel
theorem dX3_widthAfter_32 : decode cX3_widthAfter 32 = .ok (.iload_n 2, 1) := by decide +kernel
theorem dX3_widthAfter_33 : decode cX3_widthAfter 33 = .ok (.putfield 64, 3) := by decide +kernel
theorem dX3_widthAfter_36 : decode cX3_widthAfter 36 = .ok (.lload_n 3, 1) := by decide +kernel
theorem dX3_widthAfter_37 : decode cX3_widthAfter 37 = .ok (.lreturn, 1) := by decide +kernel
theorem dX3_worstStrategy_0 : decode cX3_worstStrategy 0 = .ok (.aload_n 0, 1) := by decide +kernel
theorem dX3_worstStrategy_1 : decode cX3_worstStrategy 1 = .ok (.iload_n 1, 1) := by decide +kernel
theorem dX3_worstStrategy_2 : decode cX3_worstStrategy 2 = .ok (.invokevirtual 117, 3) := by decide +kernel
theorem dX3_worstStrategy_5 : decode cX3_worstStrategy 5 = .ok (.ifCond .eq 7, 3) := by decide +kernel
theorem dX3_worstStrategy_8 : decode cX3_worstStrategy 8 = .ok (.sipush (-1001), 3) := by decide +kernel
theorem dX3_worstStrategy_11 : decode cX3_worstStrategy 11 = .ok (.ireturn, 1) := by decide +kernel
theorem dX3_worstStrategy_12 : decode cX3_worstStrategy 12 = .ok (.iload_n 2, 1) := by decide +kernel
theorem dX3_worstStrategy_13 : decode cX3_worstStrategy 13 = .ok (.i2l, 1) := by decide +kernel
theorem dX3_worstStrategy_14 : decode cX3_worstStrategy 14 = .ok (.lconst 1, 1) := by decide +kernel
theorem dX3_worstStrategy_15 : decode cX3_worstStrategy 15 = .ok (.ldc2_w 69, 3) := by decide +kernel
theorem dX3_worstStrategy_18 : decode cX3_worstStrategy 18 = .ok (.invokestatic 71, 3) := by decide +kernel
theorem dX3_worstStrategy_21 : decode cX3_worstStrategy 21 = .ok (.ifCond .ne 7, 3) := by decide +kernel
theorem dX3_worstStrategy_24 : decode cX3_worstStrategy 24 = .ok (.sipush (-1002), 3) := by decide +kernel
theorem dX3_worstStrategy_27 : decode cX3_worstStrategy 27 = .ok (.ireturn, 1) := by decide +kernel
theorem dX3_worstStrategy_28 : decode cX3_worstStrategy 28 = .ok (.aload_n 0, 1) := by decide +kernel
theorem dX3_worstStrategy_29 : decode cX3_worstStrategy 29 = .ok (.iload_n 1, 1) := by decide +kernel
theorem dX3_worstStrategy_30 : decode cX3_worstStrategy 30 = .ok (.invokevirtual 133, 3) := by decide +kernel
theorem dX3_worstStrategy_33 : decode cX3_worstStrategy 33 = .ok (.ifCond .eq 7, 3) := by decide +kernel
theorem dX3_worstStrategy_36 : decode cX3_worstStrategy 36 = .ok (.sipush (-1003), 3) := by decide +kernel
theorem dX3_worstStrategy_39 : decode cX3_worstStrategy 39 = .ok (.ireturn, 1) := by decide +kernel
theorem dX3_worstStrategy_40 : decode cX3_worstStrategy 40 = .ok (.aload_n 0, 1) := by decide +kernel
theorem dX3_worstStrategy_41 : decode cX3_worstStrategy 41 = .ok (.getfield 64, 3) := by decide +kernel
theorem dX3_worstStrategy_44 : decode cX3_worstStrategy 44 = .ok (.iload_n 2, 1) := by decide +kernel
theorem dX3_worstStrategy_45 : decode cX3_worstStrategy 45 = .ok (.iadd, 1) := by decide +kernel
theorem dX3_worstStrategy_46 : decode cX3_worstStrategy 46 = .ok (.bipush 60, 2) := by decide +kernel
theorem dX3_worstStrategy_48 : decode cX3_worstStrategy 48 = .ok (.if_icmp .le 7, 3) := by decide +kernel
theorem dX3_worstStrategy_51 : decode cX3_worstStrategy 51 = .ok (.sipush (-1004), 3) := by decide +kernel
theorem dX3_worstStrategy_54 : decode cX3_worstStrategy 54 = .ok (.ireturn, 1) := by decide +kernel
theorem dX3_worstStrategy_55 : decode cX3_worstStrategy 55 = .ok (.aload_n 0, 1) := by decide +kernel
theorem dX3_worstStrategy_56 : decode cX3_worstStrategy 56 = .ok (.getfield 13, 3) := by decide +kernel
theorem dX3_worstStrategy_59 : decode cX3_worstStrategy 59 = .ok (.iload_n 1, 1) := by decide +kernel
theorem dX3_worstStrategy_60 : decode cX3_worstStrategy 60 = .ok (.iaload, 1) := by decide +kernel
theorem dX3_worstStrategy_61 : decode cX3_worstStrategy 61 = .ok (.istore_n 3, 1) := by decide +kernel
theorem dX3_worstStrategy_62 : decode cX3_worstStrategy 62 = .ok (.iconst 0, 1) := by decide +kernel
theorem dX3_worstStrategy_63 : decode cX3_worstStrategy 63 = .ok (.istore 4, 2) := by decide +kernel
theorem dX3_worstStrategy_65 : decode cX3_worstStrategy 65 = .ok (.ldc2_w 131, 3) := by decide +kernel
theorem dX3_worstStrategy_68 : decode cX3_worstStrategy 68 = .ok (.lstore 5, 2) := by decide +kernel
theorem dX3_worstStrategy_70 : decode cX3_worstStrategy 70 = .ok (.iconst 1, 1) := by decide +kernel
theorem dX3_worstStrategy_71 : decode cX3_worstStrategy 71 = .ok (.istore 7, 2) := by decide +kernel
theorem dX3_worstStrategy_73 : decode cX3_worstStrategy 73 = .ok (.iload 7, 2) := by decide +kernel
theorem dX3_worstStrategy_75 : decode cX3_worstStrategy 75 = .ok (.bipush 6, 2) := by decide +kernel
theorem dX3_worstStrategy_77 : decode cX3_worstStrategy 77 = .ok (.if_icmp .ge 58, 3) := by decide +kernel
theorem dX3_worstStrategy_80 : decode cX3_worstStrategy 80 = .ok (.aload_n 0, 1) := by decide +kernel
theorem dX3_worstStrategy_81 : decode cX3_worstStrategy 81 = .ok (.getfield 13, 3) := by decide +kernel
theorem dX3_worstStrategy_84 : decode cX3_worstStrategy 84 = .ok (.iload_n 1, 1) := by decide +kernel
theorem dX3_worstStrategy_85 : decode cX3_worstStrategy 85 = .ok (.iload 7, 2) := by decide +kernel
theorem dX3_worstStrategy_87 : decode cX3_worstStrategy 87 = .ok (.iastore, 1) := by decide +kernel
theorem dX3_worstStrategy_88 : decode cX3_worstStrategy 88 = .ok (.aload_n 0, 1) := by decide +kernel
theorem dX3_worstStrategy_89 : decode cX3_worstStrategy 89 = .ok (.iload_n 2, 1) := by decide +kernel
theorem dX3_worstStrategy_90 : decode cX3_worstStrategy 90 = .ok (.invokevirtual 205, 3) := by decide +kernel
theorem dX3_worstStrategy_93 : decode cX3_worstStrategy 93 = .ok (.lstore 8, 2) := by decide +kernel
theorem dX3_worstStrategy_95 : decode cX3_worstStrategy 95 = .ok (.lload 8, 2) := by decide +kernel
theorem dX3_worstStrategy_97 : decode cX3_worstStrategy 97 = .ok (.lload 5, 2) := by decide +kernel
theorem dX3_worstStrategy_99 : decode cX3_worstStrategy 99 = .ok (.lcmp, 1) := by decide +kernel
theorem dX3_worstStrategy_100 : decode cX3_worstStrategy 100 = .ok (.ifCond .le 8, 3) := by decide +kernel
theorem dX3_worstStrategy_103 : decode cX3_worstStrategy 103 = .ok (.iload 7, 2) := by decide +kernel
theorem dX3_worstStrategy_105 : decode cX3_worstStrategy 105 = .ok (.goto 5, 3) := by decide +kernel
theorem dX3_worstStrategy_108 : decode cX3_worstStrategy 108 = .ok (.iload 4, 2) := by decide +kernel
theorem dX3_worstStrategy_110 : decode cX3_worstStrategy 110 = .ok (.istore 4, 2) := by decide +kernel
theorem dX3_worstStrategy_112 : decode cX3_worstStrategy 112 = .ok (.lload 8, 2) := by decide +kernel
theorem dX3_worstStrategy_114 : decode cX3_worstStrategy 114 = .ok (.lload 5, 2) := by decide +kernel
theorem dX3_worstStrategy_116 : decode cX3_worstStrategy 116 = .ok (.lcmp, 1) := by decide +kernel
theorem dX3_worstStrategy_117 : decode cX3_worstStrategy 117 = .ok (.ifCond .le 8, 3) := by decide +kernel
theorem dX3_worstStrategy_120 : decode cX3_worstStrategy 120 = .ok (.lload 8, 2) := by decide +kernel
theorem dX3_worstStrategy_122 : decode cX3_worstStrategy 122 = .ok (.goto 5, 3) := by decide +kernel
theorem dX3_worstStrategy_125 : decode cX3_worstStrategy 125 = .ok (.lload 5, 2) := by decide +kernel
theorem dX3_worstStrategy_127 : decode cX3_worstStrategy 127 = .ok (.lstore 5, 2) := by decide +kernel
theorem dX3_worstStrategy_129 : decode cX3_worstStrategy 129 = .ok (.iinc 7 1, 3) := by decide +kernel
theorem dX3_worstStrategy_132 : decode cX3_worstStrategy 132 = .ok (.goto (-59), 3) := by decide +kernel
theorem dX3_worstStrategy_135 : decode cX3_worstStrategy 135 = .ok (.aload_n 0, 1) := by decide +kernel
theorem dX3_worstStrategy_136 : decode cX3_worstStrategy 136 = .ok (.getfield 13, 3) := by decide +kernel
theorem dX3_worstStrategy_139 : decode cX3_worstStrategy 139 = .ok (.iload_n 1, 1) := by decide +kernel
theorem dX3_worstStrategy_140 : decode cX3_worstStrategy 140 = .ok (.iload_n 3, 1) := by decide +kernel
theorem dX3_worstStrategy_141 : decode cX3_worstStrategy 141 = .ok (.iastore, 1) := by decide +kernel
theorem dX3_worstStrategy_142 : decode cX3_worstStrategy 142 = .ok (.iload 4, 2) := by decide +kernel
theorem dX3_worstStrategy_144 : decode cX3_worstStrategy 144 = .ok (.ireturn, 1) := by decide +kernel
theorem dX3_bestRule_0 : decode cX3_bestRule 0 = .ok (.iload_n 1, 1) := by decide +kernel
theorem dX3_bestRule_1 : decode cX3_bestRule 1 = .ok (.i2l, 1) := by decide +kernel
theorem dX3_bestRule_2 : decode cX3_bestRule 2 = .ok (.lconst 1, 1) := by decide +kernel
theorem dX3_bestRule_3 : decode cX3_bestRule 3 = .ok (.ldc2_w 69, 3) := by decide +kernel
theorem dX3_bestRule_6 : decode cX3_bestRule 6 = .ok (.invokestatic 71, 3) := by decide +kernel
theorem dX3_bestRule_9 : decode cX3_bestRule 9 = .ok (.ifCond .ne 7, 3) := by decide +kernel
theorem dX3_bestRule_12 : decode cX3_bestRule 12 = .ok (.sipush (-1002), 3) := by decide +kernel
theorem dX3_bestRule_15 : decode cX3_bestRule 15 = .ok (.ireturn, 1) := by decide +kernel
theorem dX3_bestRule_16 : decode cX3_bestRule 16 = .ok (.aload_n 0, 1) := by decide +kernel
theorem dX3_bestRule_17 : decode cX3_bestRule 17 = .ok (.getfield 64, 3) := by decide +kernel
theorem dX3_bestRule_20 : decode cX3_bestRule 20 = .ok (.iload_n 1, 1) := by decide +kernel
theorem dX3_bestRule_21 : decode cX3_bestRule 21 = .ok (.iadd, 1) := by decide +kernel
theorem dX3_bestRule_22 : decode cX3_bestRule 22 = .ok (.bipush 60, 2) := by decide +kernel
theorem dX3_bestRule_24 : decode cX3_bestRule 24 = .ok (.if_icmp .le 7, 3) := by decide +kernel
theorem dX3_bestRule_27 : decode cX3_bestRule 27 = .ok (.sipush (-1004), 3) := by decide +kernel
theorem dX3_bestRule_30 : decode cX3_bestRule 30 = .ok (.ireturn, 1) := by decide +kernel
theorem dX3_bestRule_31 : decode cX3_bestRule 31 = .ok (.aload_n 0, 1) := by decide +kernel
theorem dX3_bestRule_32 : decode cX3_bestRule 32 = .ok (.getfield 61, 3) := by decide +kernel
theorem dX3_bestRule_35 : decode cX3_bestRule 35 = .ok (.istore_n 2, 1) := by decide +kernel
theorem dX3_bestRule_36 : decode cX3_bestRule 36 = .ok (.iconst 0, 1) := by decide +kernel
theorem dX3_bestRule_37 : decode cX3_bestRule 37 = .ok (.istore_n 3, 1) := by decide +kernel
theorem dX3_bestRule_38 : decode cX3_bestRule 38 = .ok (.lconst 0, 1) := by decide +kernel
theorem dX3_bestRule_39 : decode cX3_bestRule 39 = .ok (.lstore 4, 2) := by decide +kernel
theorem dX3_bestRule_41 : decode cX3_bestRule 41 = .ok (.iconst 0, 1) := by decide +kernel
theorem dX3_bestRule_42 : decode cX3_bestRule 42 = .ok (.istore 6, 2) := by decide +kernel
theorem dX3_bestRule_44 : decode cX3_bestRule 44 = .ok (.iload 6, 2) := by decide +kernel
theorem dX3_bestRule_46 : decode cX3_bestRule 46 = .ok (.iconst 4, 1) := by decide +kernel
theorem dX3_bestRule_47 : decode cX3_bestRule 47 = .ok (.if_icmp .ge 64, 3) := by decide +kernel
theorem dX3_bestRule_50 : decode cX3_bestRule 50 = .ok (.aload_n 0, 1) := by decide +kernel
theorem dX3_bestRule_51 : decode cX3_bestRule 51 = .ok (.iload 6, 2) := by decide +kernel
theorem dX3_bestRule_53 : decode cX3_bestRule 53 = .ok (.putfield 61, 3) := by decide +kernel
theorem dX3_bestRule_56 : decode cX3_bestRule 56 = .ok (.aload_n 0, 1) := by decide +kernel
theorem dX3_bestRule_57 : decode cX3_bestRule 57 = .ok (.iload_n 1, 1) := by decide +kernel
theorem dX3_bestRule_58 : decode cX3_bestRule 58 = .ok (.invokevirtual 205, 3) := by decide +kernel
theorem dX3_bestRule_61 : decode cX3_bestRule 61 = .ok (.lstore 7, 2) := by decide +kernel
theorem dX3_bestRule_63 : decode cX3_bestRule 63 = .ok (.iload 6, 2) := by decide +kernel
theorem dX3_bestRule_65 : decode cX3_bestRule 65 = .ok (.ifCond .eq 11, 3) := by decide +kernel
theorem dX3_bestRule_68 : decode cX3_bestRule 68 = .ok (.lload 7, 2) := by decide +kernel
theorem dX3_bestRule_70 : decode cX3_bestRule 70 = .ok (.lload 4, 2) := by decide +kernel
theorem dX3_bestRule_72 : decode cX3_bestRule 72 = .ok (.lcmp, 1) := by decide +kernel
theorem dX3_bestRule_73 : decode cX3_bestRule 73 = .ok (.ifCond .ge 8, 3) := by decide +kernel
theorem dX3_bestRule_76 : decode cX3_bestRule 76 = .ok (.iload 6, 2) := by decide +kernel
theorem dX3_bestRule_78 : decode cX3_bestRule 78 = .ok (.goto 4, 3) := by decide +kernel
theorem dX3_bestRule_81 : decode cX3_bestRule 81 = .ok (.iload_n 3, 1) := by decide +kernel
theorem dX3_bestRule_82 : decode cX3_bestRule 82 = .ok (.istore_n 3, 1) := by decide +kernel
theorem dX3_bestRule_83 : decode cX3_bestRule 83 = .ok (.iload 6, 2) := by decide +kernel
theorem dX3_bestRule_85 : decode cX3_bestRule 85 = .ok (.ifCond .eq 11, 3) := by decide +kernel
theorem dX3_bestRule_88 : decode cX3_bestRule 88 = .ok (.lload 7, 2) := by decide +kernel
theorem dX3_bestRule_90 : decode cX3_bestRule 90 = .ok (.lload 4, 2) := by decide +kernel
theorem dX3_bestRule_92 : decode cX3_bestRule 92 = .ok (.lcmp, 1) := by decide +kernel
theorem dX3_bestRule_93 : decode cX3_bestRule 93 = .ok (.ifCond .ge 8, 3) := by decide +kernel
theorem dX3_bestRule_96 : decode cX3_bestRule 96 = .ok (.lload 7, 2) := by decide +kernel
theorem dX3_bestRule_98 : decode cX3_bestRule 98 = .ok (.goto 5, 3) := by decide +kernel
theorem dX3_bestRule_101 : decode cX3_bestRule 101 = .ok (.lload 4, 2) := by decide +kernel
theorem dX3_bestRule_103 : decode cX3_bestRule 103 = .ok (.lstore 4, 2) := by decide +kernel
theorem dX3_bestRule_105 : decode cX3_bestRule 105 = .ok (.iinc 6 1, 3) := by decide +kernel
theorem dX3_bestRule_108 : decode cX3_bestRule 108 = .ok (.goto (-64), 3) := by decide +kernel
theorem dX3_bestRule_111 : decode cX3_bestRule 111 = .ok (.aload_n 0, 1) := by decide +kernel
theorem dX3_bestRule_112 : decode cX3_bestRule 112 = .ok (.iload_n 2, 1) := by decide +kernel
theorem dX3_bestRule_113 : decode cX3_bestRule 113 = .ok (.putfield 61, 3) := by decide +kernel
theorem dX3_bestRule_116 : decode cX3_bestRule 116 = .ok (.iload_n 3, 1) := by decide +kernel
theorem dX3_bestRule_117 : decode cX3_bestRule 117 = .ok (.ireturn, 1) := by decide +kernel
theorem dJ6_bitCount_0f7a4_0 : decode cJ6_bitCount_0f7a4 0 = .ok (.iload_n 0, 1) := by decide +kernel
theorem dJ6_bitCount_0f7a4_1 : decode cJ6_bitCount_0f7a4 1 = .ok (.iload_n 0, 1) := by decide +kernel
theorem dJ6_bitCount_0f7a4_2 : decode cJ6_bitCount_0f7a4 2 = .ok (.iconst 1, 1) := by decide +kernel
theorem dJ6_bitCount_0f7a4_3 : decode cJ6_bitCount_0f7a4 3 = .ok (.iushr, 1) := by decide +kernel
theorem dJ6_bitCount_0f7a4_4 : decode cJ6_bitCount_0f7a4 4 = .ok (.ldc_w 265, 3) := by decide +kernel
theorem dJ6_bitCount_0f7a4_7 : decode cJ6_bitCount_0f7a4 7 = .ok (.iand, 1) := by decide +kernel
theorem dJ6_bitCount_0f7a4_8 : decode cJ6_bitCount_0f7a4 8 = .ok (.isub, 1) := by decide +kernel
theorem dJ6_bitCount_0f7a4_9 : decode cJ6_bitCount_0f7a4 9 = .ok (.istore_n 0, 1) := by decide +kernel
theorem dJ6_bitCount_0f7a4_10 : decode cJ6_bitCount_0f7a4 10 = .ok (.iload_n 0, 1) := by decide +kernel
theorem dJ6_bitCount_0f7a4_11 : decode cJ6_bitCount_0f7a4 11 = .ok (.ldc_w 266, 3) := by decide +kernel
theorem dJ6_bitCount_0f7a4_14 : decode cJ6_bitCount_0f7a4 14 = .ok (.iand, 1) := by decide +kernel
theorem dJ6_bitCount_0f7a4_15 : decode cJ6_bitCount_0f7a4 15 = .ok (.iload_n 0, 1) := by decide +kernel
theorem dJ6_bitCount_0f7a4_16 : decode cJ6_bitCount_0f7a4 16 = .ok (.iconst 2, 1) := by decide +kernel
theorem dJ6_bitCount_0f7a4_17 : decode cJ6_bitCount_0f7a4 17 = .ok (.iushr, 1) := by decide +kernel
theorem dJ6_bitCount_0f7a4_18 : decode cJ6_bitCount_0f7a4 18 = .ok (.ldc_w 266, 3) := by decide +kernel
theorem dJ6_bitCount_0f7a4_21 : decode cJ6_bitCount_0f7a4 21 = .ok (.iand, 1) := by decide +kernel
theorem dJ6_bitCount_0f7a4_22 : decode cJ6_bitCount_0f7a4 22 = .ok (.iadd, 1) := by decide +kernel
theorem dJ6_bitCount_0f7a4_23 : decode cJ6_bitCount_0f7a4 23 = .ok (.istore_n 0, 1) := by decide +kernel
theorem dJ6_bitCount_0f7a4_24 : decode cJ6_bitCount_0f7a4 24 = .ok (.iload_n 0, 1) := by decide +kernel
theorem dJ6_bitCount_0f7a4_25 : decode cJ6_bitCount_0f7a4 25 = .ok (.iload_n 0, 1) := by decide +kernel
theorem dJ6_bitCount_0f7a4_26 : decode cJ6_bitCount_0f7a4 26 = .ok (.iconst 4, 1) := by decide +kernel
theorem dJ6_bitCount_0f7a4_27 : decode cJ6_bitCount_0f7a4 27 = .ok (.iushr, 1) := by decide +kernel
theorem dJ6_bitCount_0f7a4_28 : decode cJ6_bitCount_0f7a4 28 = .ok (.iadd, 1) := by decide +kernel
theorem dJ6_bitCount_0f7a4_29 : decode cJ6_bitCount_0f7a4 29 = .ok (.ldc_w 267, 3) := by decide +kernel
theorem dJ6_bitCount_0f7a4_32 : decode cJ6_bitCount_0f7a4 32 = .ok (.iand, 1) := by decide +kernel
theorem dJ6_bitCount_0f7a4_33 : decode cJ6_bitCount_0f7a4 33 = .ok (.istore_n 0, 1) := by decide +kernel
theorem dJ6_bitCount_0f7a4_34 : decode cJ6_bitCount_0f7a4 34 = .ok (.iload_n 0, 1) := by decide +kernel
theorem dJ6_bitCount_0f7a4_35 : decode cJ6_bitCount_0f7a4 35 = .ok (.iload_n 0, 1) := by decide +kernel
theorem dJ6_bitCount_0f7a4_36 : decode cJ6_bitCount_0f7a4 36 = .ok (.bipush 8, 2) := by decide +kernel
theorem dJ6_bitCount_0f7a4_38 : decode cJ6_bitCount_0f7a4 38 = .ok (.iushr, 1) := by decide +kernel
theorem dJ6_bitCount_0f7a4_39 : decode cJ6_bitCount_0f7a4 39 = .ok (.iadd, 1) := by decide +kernel
theorem dJ6_bitCount_0f7a4_40 : decode cJ6_bitCount_0f7a4 40 = .ok (.istore_n 0, 1) := by decide +kernel
theorem dJ6_bitCount_0f7a4_41 : decode cJ6_bitCount_0f7a4 41 = .ok (.iload_n 0, 1) := by decide +kernel
theorem dJ6_bitCount_0f7a4_42 : decode cJ6_bitCount_0f7a4 42 = .ok (.iload_n 0, 1) := by decide +kernel
theorem dJ6_bitCount_0f7a4_43 : decode cJ6_bitCount_0f7a4 43 = .ok (.bipush 16, 2) := by decide +kernel
theorem dJ6_bitCount_0f7a4_45 : decode cJ6_bitCount_0f7a4 45 = .ok (.iushr, 1) := by decide +kernel
theorem dJ6_bitCount_0f7a4_46 : decode cJ6_bitCount_0f7a4 46 = .ok (.iadd, 1) := by decide +kernel
theorem dJ6_bitCount_0f7a4_47 : decode cJ6_bitCount_0f7a4 47 = .ok (.istore_n 0, 1) := by decide +kernel
theorem dJ6_bitCount_0f7a4_48 : decode cJ6_bitCount_0f7a4 48 = .ok (.iload_n 0, 1) := by decide +kernel
theorem dJ6_bitCount_0f7a4_49 : decode cJ6_bitCount_0f7a4 49 = .ok (.bipush 63, 2) := by decide +kernel
theorem dJ6_bitCount_0f7a4_51 : decode cJ6_bitCount_0f7a4 51 = .ok (.iand, 1) := by decide +kernel
theorem dJ6_bitCount_0f7a4_52 : decode cJ6_bitCount_0f7a4 52 = .ok (.ireturn, 1) := by decide +kernel
theorem dJ9_floorDiv_f86c9_0 : decode cJ9_floorDiv_f86c9 0 = .ok (.lload_n 0, 1) := by decide +kernel
theorem dJ9_floorDiv_f86c9_1 : decode cJ9_floorDiv_f86c9 1 = .ok (.lload_n 2, 1) := by decide +kernel
theorem dJ9_floorDiv_f86c9_2 : decode cJ9_floorDiv_f86c9 2 = .ok (.ldiv, 1) := by decide +kernel
theorem dJ9_floorDiv_f86c9_3 : decode cJ9_floorDiv_f86c9 3 = .ok (.lstore 4, 2) := by decide +kernel
theorem dJ9_floorDiv_f86c9_5 : decode cJ9_floorDiv_f86c9 5 = .ok (.lload_n 0, 1) := by decide +kernel
theorem dJ9_floorDiv_f86c9_6 : decode cJ9_floorDiv_f86c9 6 = .ok (.lload_n 2, 1) := by decide +kernel
theorem dJ9_floorDiv_f86c9_7 : decode cJ9_floorDiv_f86c9 7 = .ok (.lxor, 1) := by decide +kernel
theorem dJ9_floorDiv_f86c9_8 : decode cJ9_floorDiv_f86c9 8 = .ok (.lconst 0, 1) := by decide +kernel
theorem dJ9_floorDiv_f86c9_9 : decode cJ9_floorDiv_f86c9 9 = .ok (.lcmp, 1) := by decide +kernel
theorem dJ9_floorDiv_f86c9_10 : decode cJ9_floorDiv_f86c9 10 = .ok (.ifCond .ge 17, 3) := by decide +kernel
theorem dJ9_floorDiv_f86c9_13 : decode cJ9_floorDiv_f86c9 13 = .ok (.lload 4, 2) := by decide +kernel
theorem dJ9_floorDiv_f86c9_15 : decode cJ9_floorDiv_f86c9 15 = .ok (.lload_n 2, 1) := by decide +kernel
theorem dJ9_floorDiv_f86c9_16 : decode cJ9_floorDiv_f86c9 16 = .ok (.lmul, 1) := by decide +kernel
theorem dJ9_floorDiv_f86c9_17 : decode cJ9_floorDiv_f86c9 17 = .ok (.lload_n 0, 1) := by decide +kernel
theorem dJ9_floorDiv_f86c9_18 : decode cJ9_floorDiv_f86c9 18 = .ok (.lcmp, 1) := by decide +kernel
theorem dJ9_floorDiv_f86c9_19 : decode cJ9_floorDiv_f86c9 19 = .ok (.ifCond .eq 8, 3) := by decide +kernel
theorem dJ9_floorDiv_f86c9_22 : decode cJ9_floorDiv_f86c9 22 = .ok (.lload 4, 2) := by decide +kernel
theorem dJ9_floorDiv_f86c9_24 : decode cJ9_floorDiv_f86c9 24 = .ok (.lconst 1, 1) := by decide +kernel
theorem dJ9_floorDiv_f86c9_25 : decode cJ9_floorDiv_f86c9 25 = .ok (.lsub, 1) := by decide +kernel
theorem dJ9_floorDiv_f86c9_26 : decode cJ9_floorDiv_f86c9 26 = .ok (.lreturn, 1) := by decide +kernel
theorem dJ9_floorDiv_f86c9_27 : decode cJ9_floorDiv_f86c9 27 = .ok (.lload 4, 2) := by decide +kernel
theorem dJ9_floorDiv_f86c9_29 : decode cJ9_floorDiv_f86c9 29 = .ok (.lreturn, 1) := by decide +kernel
theorem dJ9_abs_067f4_0 : decode cJ9_abs_067f4 0 = .ok (.lload_n 0, 1) := by decide +kernel
theorem dJ9_abs_067f4_1 : decode cJ9_abs_067f4 1 = .ok (.lconst 0, 1) := by decide +kernel
theorem dJ9_abs_067f4_2 : decode cJ9_abs_067f4 2 = .ok (.lcmp, 1) := by decide +kernel
theorem dJ9_abs_067f4_3 : decode cJ9_abs_067f4 3 = .ok (.ifCond .ge 8, 3) := by decide +kernel
theorem dJ9_abs_067f4_6 : decode cJ9_abs_067f4 6 = .ok (.lload_n 0, 1) := by decide +kernel
theorem dJ9_abs_067f4_7 : decode cJ9_abs_067f4 7 = .ok (.lneg, 1) := by decide +kernel
theorem dJ9_abs_067f4_8 : decode cJ9_abs_067f4 8 = .ok (.goto 4, 3) := by decide +kernel
theorem dJ9_abs_067f4_11 : decode cJ9_abs_067f4 11 = .ok (.lload_n 0, 1) := by decide +kernel
theorem dJ9_abs_067f4_12 : decode cJ9_abs_067f4 12 = .ok (.lreturn, 1) := by decide +kernel
theorem dJ9_max_7cf53_0 : decode cJ9_max_7cf53 0 = .ok (.iload_n 0, 1) := by decide +kernel
theorem dJ9_max_7cf53_1 : decode cJ9_max_7cf53 1 = .ok (.iload_n 1, 1) := by decide +kernel
theorem dJ9_max_7cf53_2 : decode cJ9_max_7cf53 2 = .ok (.if_icmp .lt 7, 3) := by decide +kernel
theorem dJ9_max_7cf53_5 : decode cJ9_max_7cf53 5 = .ok (.iload_n 0, 1) := by decide +kernel
theorem dJ9_max_7cf53_6 : decode cJ9_max_7cf53 6 = .ok (.goto 4, 3) := by decide +kernel
theorem dJ9_max_7cf53_9 : decode cJ9_max_7cf53 9 = .ok (.iload_n 1, 1) := by decide +kernel
theorem dJ9_max_7cf53_10 : decode cJ9_max_7cf53 10 = .ok (.ireturn, 1) := by decide +kernel
theorem dJ9_max_f86c9_0 : decode cJ9_max_f86c9 0 = .ok (.lload_n 0, 1) := by decide +kernel
theorem dJ9_max_f86c9_1 : decode cJ9_max_f86c9 1 = .ok (.lload_n 2, 1) := by decide +kernel
theorem dJ9_max_f86c9_2 : decode cJ9_max_f86c9 2 = .ok (.lcmp, 1) := by decide +kernel
