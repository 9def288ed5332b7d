theorem dX2_mostFrequent_14 : decode cX2_mostFrequent 14 = .ok (.invokevirtual 149, 3) := by decide +kernel
theorem dX2_mostFrequent_17 : decode cX2_mostFrequent 17 = .ok (.ifCond .ne 7, 3) := by decide +kernel
theorem dX2_mostFrequent_20 : decode cX2_mostFrequent 20 = .ok (.sipush (-1005), 3) := by decide +kernel
theorem dX2_mostFrequent_23 : decode cX2_mostFrequent 23 = .ok (.ireturn, 1) := by decide +kernel
theorem dX2_mostFrequent_24 : decode cX2_mostFrequent 24 = .ok (.iconst 0, 1) := by decide +kernel
theorem dX2_mostFrequent_25 : decode cX2_mostFrequent 25 = .ok (.istore_n 2, 1) := by decide +kernel
theorem dX2_mostFrequent_26 : decode cX2_mostFrequent 26 = .ok (.iconst 0, 1) := by decide +kernel
theorem dX2_mostFrequent_27 : decode cX2_mostFrequent 27 = .ok (.istore_n 3, 1) := by decide +kernel
theorem dX2_mostFrequent_28 : decode cX2_mostFrequent 28 = .ok (.iconst 0, 1) := by decide +kernel
theorem dX2_mostFrequent_29 : decode cX2_mostFrequent 29 = .ok (.istore 4, 2) := by decide +kernel
theorem dX2_mostFrequent_31 : decode cX2_mostFrequent 31 = .ok (.iload 4, 2) := by decide +kernel
theorem dX2_mostFrequent_33 : decode cX2_mostFrequent 33 = .ok (.aload_n 0, 1) := by decide +kernel
theorem dX2_mostFrequent_34 : decode cX2_mostFrequent 34 = .ok (.getfield 53, 3) := by decide +kernel
theorem dX2_mostFrequent_37 : decode cX2_mostFrequent 37 = .ok (.if_icmp .ge 42, 3) := by decide +kernel
theorem dX2_mostFrequent_40 : decode cX2_mostFrequent 40 = .ok (.aload_n 0, 1) := by decide +kernel
theorem dX2_mostFrequent_41 : decode cX2_mostFrequent 41 = .ok (.iload 4, 2) := by decide +kernel
theorem dX2_mostFrequent_43 : decode cX2_mostFrequent 43 = .ok (.invokevirtual 125, 3) := by decide +kernel
theorem dX2_mostFrequent_46 : decode cX2_mostFrequent 46 = .ok (.ifCond .eq 12, 3) := by decide +kernel
theorem dX2_mostFrequent_49 : decode cX2_mostFrequent 49 = .ok (.aload_n 0, 1) := by decide +kernel
theorem dX2_mostFrequent_50 : decode cX2_mostFrequent 50 = .ok (.iload 4, 2) := by decide +kernel
theorem dX2_mostFrequent_52 : decode cX2_mostFrequent 52 = .ok (.invokevirtual 152, 3) := by decide +kernel
theorem dX2_mostFrequent_55 : decode cX2_mostFrequent 55 = .ok (.goto 4, 3) := by decide +kernel
theorem dX2_mostFrequent_58 : decode cX2_mostFrequent 58 = .ok (.iconst 0, 1) := by decide +kernel
theorem dX2_mostFrequent_59 : decode cX2_mostFrequent 59 = .ok (.istore 5, 2) := by decide +kernel
theorem dX2_mostFrequent_61 : decode cX2_mostFrequent 61 = .ok (.iload 5, 2) := by decide +kernel
theorem dX2_mostFrequent_63 : decode cX2_mostFrequent 63 = .ok (.iload_n 3, 1) := by decide +kernel
theorem dX2_mostFrequent_64 : decode cX2_mostFrequent 64 = .ok (.if_icmp .le 9, 3) := by decide +kernel
theorem dX2_mostFrequent_67 : decode cX2_mostFrequent 67 = .ok (.iload 5, 2) := by decide +kernel
theorem dX2_mostFrequent_69 : decode cX2_mostFrequent 69 = .ok (.istore_n 3, 1) := by decide +kernel
theorem dX2_mostFrequent_70 : decode cX2_mostFrequent 70 = .ok (.iload 4, 2) := by decide +kernel
theorem dX2_mostFrequent_72 : decode cX2_mostFrequent 72 = .ok (.istore_n 2, 1) := by decide +kernel
theorem dX2_mostFrequent_73 : decode cX2_mostFrequent 73 = .ok (.iinc 4 1, 3) := by decide +kernel
theorem dX2_mostFrequent_76 : decode cX2_mostFrequent 76 = .ok (.goto (-45), 3) := by decide +kernel
theorem dX2_mostFrequent_79 : decode cX2_mostFrequent 79 = .ok (.iload_n 1, 1) := by decide +kernel
theorem dX2_mostFrequent_80 : decode cX2_mostFrequent 80 = .ok (.ifCond .ne 7, 3) := by decide +kernel
theorem dX2_mostFrequent_83 : decode cX2_mostFrequent 83 = .ok (.iload_n 2, 1) := by decide +kernel
theorem dX2_mostFrequent_84 : decode cX2_mostFrequent 84 = .ok (.goto 4, 3) := by decide +kernel
theorem dX2_mostFrequent_87 : decode cX2_mostFrequent 87 = .ok (.iload_n 3, 1) := by decide +kernel
theorem dX2_mostFrequent_88 : decode cX2_mostFrequent 88 = .ok (.ireturn, 1) := by decide +kernel
theorem dX2_width_0 : decode cX2_width 0 = .ok (.iload_n 1, 1) := by decide +kernel
theorem dX2_width_1 : decode cX2_width 1 = .ok (.iconst 0, 1) := by decide +kernel
theorem dX2_width_2 : decode cX2_width 2 = .ok (.aload_n 0, 1) := by decide +kernel
theorem dX2_width_3 : decode cX2_width 3 = .ok (.getfield 72, 3) := by decide +kernel
theorem dX2_width_6 : decode cX2_width 6 = .ok (.invokestatic 49, 3) := by decide +kernel
theorem dX2_width_9 : decode cX2_width 9 = .ok (.ifCond .ne 7, 3) := by decide +kernel
theorem dX2_width_12 : decode cX2_width 12 = .ok (.ldc2_w 128, 3) := by decide +kernel
theorem dX2_width_15 : decode cX2_width 15 = .ok (.lreturn, 1) := by decide +kernel
theorem dX2_width_16 : decode cX2_width 16 = .ok (.aload_n 0, 1) := by decide +kernel
theorem dX2_width_17 : decode cX2_width 17 = .ok (.aload_n 0, 1) := by decide +kernel
theorem dX2_width_18 : decode cX2_width 18 = .ok (.iload_n 1, 1) := by decide +kernel
theorem dX2_width_19 : decode cX2_width 19 = .ok (.invokevirtual 155, 3) := by decide +kernel
theorem dX2_width_22 : decode cX2_width 22 = .ok (.iload_n 2, 1) := by decide +kernel
theorem dX2_width_23 : decode cX2_width 23 = .ok (.invokevirtual 134, 3) := by decide +kernel
theorem dX2_width_26 : decode cX2_width 26 = .ok (.lreturn, 1) := by decide +kernel
theorem dX2_rate_0 : decode cX2_rate 0 = .ok (.iload_n 1, 1) := by decide +kernel
theorem dX2_rate_1 : decode cX2_rate 1 = .ok (.iconst 1, 1) := by decide +kernel
theorem dX2_rate_2 : decode cX2_rate 2 = .ok (.aload_n 0, 1) := by decide +kernel
theorem dX2_rate_3 : decode cX2_rate 3 = .ok (.getfield 72, 3) := by decide +kernel
theorem dX2_rate_6 : decode cX2_rate 6 = .ok (.invokestatic 49, 3) := by decide +kernel
theorem dX2_rate_9 : decode cX2_rate 9 = .ok (.ifCond .ne 7, 3) := by decide +kernel
theorem dX2_rate_12 : decode cX2_rate 12 = .ok (.ldc2_w 128, 3) := by decide +kernel
theorem dX2_rate_15 : decode cX2_rate 15 = .ok (.lreturn, 1) := by decide +kernel
theorem dX2_rate_16 : decode cX2_rate 16 = .ok (.aload_n 0, 1) := by decide +kernel
theorem dX2_rate_17 : decode cX2_rate 17 = .ok (.iload_n 1, 1) := by decide +kernel
theorem dX2_rate_18 : decode cX2_rate 18 = .ok (.iconst 1, 1) := by decide +kernel
theorem dX2_rate_19 : decode cX2_rate 19 = .ok (.isub, 1) := by decide +kernel
theorem dX2_rate_20 : decode cX2_rate 20 = .ok (.invokevirtual 155, 3) := by decide +kernel
theorem dX2_rate_23 : decode cX2_rate 23 = .ok (.lstore_n 3, 1) := by decide +kernel
theorem dX2_rate_24 : decode cX2_rate 24 = .ok (.lload_n 3, 1) := by decide +kernel
theorem dX2_rate_25 : decode cX2_rate 25 = .ok (.lconst 0, 1) := by decide +kernel
theorem dX2_rate_26 : decode cX2_rate 26 = .ok (.lcmp, 1) := by decide +kernel
theorem dX2_rate_27 : decode cX2_rate 27 = .ok (.ifCond .ne 9, 3) := by decide +kernel
theorem dX2_rate_30 : decode cX2_rate 30 = .ok (.ldc2_w 128, 3) := by decide +kernel
theorem dX2_rate_33 : decode cX2_rate 33 = .ok (.goto 13, 3) := by decide +kernel
theorem dX2_rate_36 : decode cX2_rate 36 = .ok (.aload_n 0, 1) := by decide +kernel
theorem dX2_rate_37 : decode cX2_rate 37 = .ok (.iload_n 1, 1) := by decide +kernel
theorem dX2_rate_38 : decode cX2_rate 38 = .ok (.invokevirtual 155, 3) := by decide +kernel
theorem dX2_rate_41 : decode cX2_rate 41 = .ok (.lload_n 3, 1) := by decide +kernel
theorem dX2_rate_42 : decode cX2_rate 42 = .ok (.iload_n 2, 1) := by decide +kernel
theorem dX2_rate_43 : decode cX2_rate 43 = .ok (.invokestatic 158, 3) := by decide +kernel
theorem dX2_rate_46 : decode cX2_rate 46 = .ok (.lreturn, 1) := by decide +kernel
theorem dX2_guarantee_0 : decode cX2_guarantee 0 = .ok (.aload_n 0, 1) := by decide +kernel
theorem dX2_guarantee_1 : decode cX2_guarantee 1 = .ok (.invokevirtual 162, 3) := by decide +kernel
theorem dX2_guarantee_4 : decode cX2_guarantee 4 = .ok (.ifCond .ne 7, 3) := by decide +kernel
theorem dX2_guarantee_7 : decode cX2_guarantee 7 = .ok (.ldc2_w 128, 3) := by decide +kernel
theorem dX2_guarantee_10 : decode cX2_guarantee 10 = .ok (.lreturn, 1) := by decide +kernel
theorem dX2_guarantee_11 : decode cX2_guarantee 11 = .ok (.aload_n 0, 1) := by decide +kernel
theorem dX2_guarantee_12 : decode cX2_guarantee 12 = .ok (.getfield 101, 3) := by decide +kernel
theorem dX2_guarantee_15 : decode cX2_guarantee 15 = .ok (.ifCond .ne 10, 3) := by decide +kernel
theorem dX2_guarantee_18 : decode cX2_guarantee 18 = .ok (.lconst 0, 1) := by decide +kernel
theorem dX2_guarantee_19 : decode cX2_guarantee 19 = .ok (.lconst 1, 1) := by decide +kernel
theorem dX2_guarantee_20 : decode cX2_guarantee 20 = .ok (.iload_n 1, 1) := by decide +kernel
theorem dX2_guarantee_21 : decode cX2_guarantee 21 = .ok (.invokestatic 158, 3) := by decide +kernel
theorem dX2_guarantee_24 : decode cX2_guarantee 24 = .ok (.lreturn, 1) := by decide +kernel
theorem dX2_guarantee_25 : decode cX2_guarantee 25 = .ok (.aload_n 0, 1) := by decide +kernel
theorem dX2_guarantee_26 : decode cX2_guarantee 26 = .ok (.getfield 98, 3) := by decide +kernel
theorem dX2_guarantee_29 : decode cX2_guarantee 29 = .ok (.lookupswitch 58 #[(0, 27), (1, 49)], 27) := by decide +kernel
theorem dX2_guarantee_56 : decode cX2_guarantee 56 = .ok (.aload_n 0, 1) := by decide +kernel
theorem dX2_guarantee_57 : decode cX2_guarantee 57 = .ok (.getfield 101, 3) := by decide +kernel
theorem dX2_guarantee_60 : decode cX2_guarantee 60 = .ok (.i2l, 1) := by decide +kernel
theorem dX2_guarantee_61 : decode cX2_guarantee 61 = .ok (.aload_n 0, 1) := by decide +kernel
theorem dX2_guarantee_62 : decode cX2_guarantee 62 = .ok (.getfield 53, 3) := by decide +kernel
theorem dX2_guarantee_65 : decode cX2_guarantee 65 = .ok (.iconst 2, 1) := by decide +kernel
theorem dX2_guarantee_66 : decode cX2_guarantee 66 = .ok (.aload_n 0, 1) := by decide +kernel
theorem dX2_guarantee_67 : decode cX2_guarantee 67 = .ok (.getfield 101, 3) := by decide +kernel
theorem dX2_guarantee_70 : decode cX2_guarantee 70 = .ok (.imul, 1) := by decide +kernel
theorem dX2_guarantee_71 : decode cX2_guarantee 71 = .ok (.isub, 1) := by decide +kernel
theorem dX2_guarantee_72 : decode cX2_guarantee 72 = .ok (.i2l, 1) := by decide +kernel
theorem dX2_guarantee_73 : decode cX2_guarantee 73 = .ok (.iload_n 1, 1) := by decide +kernel
theorem dX2_guarantee_74 : decode cX2_guarantee 74 = .ok (.invokestatic 158, 3) := by decide +kernel
theorem dX2_guarantee_77 : decode cX2_guarantee 77 = .ok (.lreturn, 1) := by decide +kernel
theorem dX2_guarantee_78 : decode cX2_guarantee 78 = .ok (.lconst 1, 1) := by decide +kernel
theorem dX2_guarantee_79 : decode cX2_guarantee 79 = .ok (.ldc2_w 166, 3) := by decide +kernel
theorem dX2_guarantee_82 : decode cX2_guarantee 82 = .ok (.iload_n 1, 1) := by decide +kernel
theorem dX2_guarantee_83 : decode cX2_guarantee 83 = .ok (.invokestatic 158, 3) := by decide +kernel
theorem dX2_guarantee_86 : decode cX2_guarantee 86 = .ok (.lreturn, 1) := by decide +kernel
theorem dX2_guarantee_87 : decode cX2_guarantee 87 = .ok (.lconst 1, 1) := by decide +kernel
theorem dX2_guarantee_88 : decode cX2_guarantee 88 = .ok (.aload_n 0, 1) := by decide +kernel
theorem dX2_guarantee_89 : decode cX2_guarantee 89 = .ok (.getfield 53, 3) := by decide +kernel
theorem dX2_guarantee_92 : decode cX2_guarantee 92 = .ok (.iconst 2, 1) := by decide +kernel
theorem dX2_guarantee_93 : decode cX2_guarantee 93 = .ok (.aload_n 0, 1) := by decide +kernel
theorem dX2_guarantee_94 : decode cX2_guarantee 94 = .ok (.getfield 101, 3) := by decide +kernel
theorem dX2_guarantee_97 : decode cX2_guarantee 97 = .ok (.imul, 1) := by decide +kernel
theorem dX2_guarantee_98 : decode cX2_guarantee 98 = .ok (.isub, 1) := by decide +kernel
theorem dX2_guarantee_99 : decode cX2_guarantee 99 = .ok (.iconst 1, 1) := by decide +kernel
theorem dX2_guarantee_100 : decode cX2_guarantee 100 = .ok (.isub, 1) := by decide +kernel
theorem dX2_guarantee_101 : decode cX2_guarantee 101 = .ok (.aload_n 0, 1) := by decide +kernel
theorem dX2_guarantee_102 : decode cX2_guarantee 102 = .ok (.getfield 101, 3) := by decide +kernel
theorem dX2_guarantee_105 : decode cX2_guarantee 105 = .ok (.idiv, 1) := by decide +kernel
theorem dX2_guarantee_106 : decode cX2_guarantee 106 = .ok (.iconst 1, 1) := by decide +kernel
theorem dX2_guarantee_107 : decode cX2_guarantee 107 = .ok (.iadd, 1) := by decide +kernel
theorem dX2_guarantee_108 : decode cX2_guarantee 108 = .ok (.i2l, 1) := by decide +kernel
theorem dX2_guarantee_109 : decode cX2_guarantee 109 = .ok (.iload_n 1, 1) := by decide +kernel
theorem dX2_guarantee_110 : decode cX2_guarantee 110 = .ok (.invokestatic 158, 3) := by decide +kernel
theorem dX2_guarantee_113 : decode cX2_guarantee 113 = .ok (.lreturn, 1) := by decide +kernel
theorem dX2_outside_0 : decode cX2_outside 0 = .ok (.aload_n 0, 1) := by decide +kernel
theorem dX2_outside_1 : decode cX2_outside 1 = .ok (.invokevirtual 149, 3) := by decide +kernel
theorem dX2_outside_4 : decode cX2_outside 4 = .ok (.istore_n 1, 1) := by decide +kernel
theorem dX2_outside_5 : decode cX2_outside 5 = .ok (.aload_n 0, 1) := by decide +kernel
theorem dX2_outside_6 : decode cX2_outside 6 = .ok (.getfield 23, 3) := by decide +kernel
theorem dX2_outside_9 : decode cX2_outside 9 = .ok (.iconst 0, 1) := by decide +kernel
theorem dX2_outside_10 : decode cX2_outside 10 = .ok (.iload_n 1, 1) := by decide +kernel
theorem dX2_outside_11 : decode cX2_outside 11 = .ok (.iconst 0, 1) := by decide +kernel
theorem dX2_outside_12 : decode cX2_outside 12 = .ok (.iconst 0, 1) := by decide +kernel
theorem dX2_outside_13 : decode cX2_outside 13 = .ok (.invokevirtual 168, 3) := by decide +kernel
theorem dX2_outside_16 : decode cX2_outside 16 = .ok (.lstore_n 2, 1) := by decide +kernel
theorem dX2_outside_17 : decode cX2_outside 17 = .ok (.aload_n 0, 1) := by decide +kernel
theorem dX2_outside_18 : decode cX2_outside 18 = .ok (.getfield 23, 3) := by decide +kernel
theorem dX2_outside_21 : decode cX2_outside 21 = .ok (.iconst 0, 1) := by decide +kernel
theorem dX2_outside_22 : decode cX2_outside 22 = .ok (.iload_n 1, 1) := by decide +kernel
theorem dX2_outside_23 : decode cX2_outside 23 = .ok (.iconst 1, 1) := by decide +kernel
theorem dX2_outside_24 : decode cX2_outside 24 = .ok (.iconst 1, 1) := by decide +kernel
theorem dX2_outside_25 : decode cX2_outside 25 = .ok (.invokevirtual 168, 3) := by decide +kernel
theorem dX2_outside_28 : decode cX2_outside 28 = .ok (.lstore 4, 2) := by decide +kernel
theorem dX2_outside_30 : decode cX2_outside 30 = .ok (.iconst 0, 1) := by decide +kernel
theorem dX2_outside_31 : decode cX2_outside 31 = .ok (.istore 6, 2) := by decide +kernel
theorem dX2_outside_33 : decode cX2_outside 33 = .ok (.iconst 0, 1) := by decide +kernel
theorem dX2_outside_34 : decode cX2_outside 34 = .ok (.istore 7, 2) := by decide +kernel
theorem dX2_outside_36 : decode cX2_outside 36 = .ok (.iload 7, 2) := by decide +kernel
theorem dX2_outside_38 : decode cX2_outside 38 = .ok (.aload_n 0, 1) := by decide +kernel
theorem dX2_outside_39 : decode cX2_outside 39 = .ok (.getfield 53, 3) := by decide +kernel
theorem dX2_outside_42 : decode cX2_outside 42 = .ok (.if_icmp .ge 66, 3) := by decide +kernel
theorem dX2_outside_45 : decode cX2_outside 45 = .ok (.aload_n 0, 1) := by decide +kernel
theorem dX2_outside_46 : decode cX2_outside 46 = .ok (.iload 7, 2) := by decide +kernel
theorem dX2_outside_48 : decode cX2_outside 48 = .ok (.invokevirtual 125, 3) := by decide +kernel
theorem dX2_outside_51 : decode cX2_outside 51 = .ok (.ifCond .eq 51, 3) := by decide +kernel
theorem dX2_outside_54 : decode cX2_outside 54 = .ok (.aload_n 0, 1) := by decide +kernel
theorem dX2_outside_55 : decode cX2_outside 55 = .ok (.getfield 23, 3) := by decide +kernel
theorem dX2_outside_58 : decode cX2_outside 58 = .ok (.aload_n 0, 1) := by decide +kernel
theorem dX2_outside_59 : decode cX2_outside 59 = .ok (.getfield 72, 3) := by decide +kernel
theorem dX2_outside_62 : decode cX2_outside 62 = .ok (.iload 7, 2) := by decide +kernel
theorem dX2_outside_64 : decode cX2_outside 64 = .ok (.iconst 0, 1) := by decide +kernel
theorem dX2_outside_65 : decode cX2_outside 65 = .ok (.invokevirtual 130, 3) := by decide +kernel
theorem dX2_outside_68 : decode cX2_outside 68 = .ok (.lload_n 2, 1) := by decide +kernel
theorem dX2_outside_69 : decode cX2_outside 69 = .ok (.lcmp, 1) := by decide +kernel
theorem dX2_outside_70 : decode cX2_outside 70 = .ok (.ifCond .lt 23, 3) := by decide +kernel
theorem dX2_outside_73 : decode cX2_outside 73 = .ok (.aload_n 0, 1) := by decide +kernel
theorem dX2_outside_74 : decode cX2_outside 74 = .ok (.getfield 23, 3) := by decide +kernel
theorem dX2_outside_77 : decode cX2_outside 77 = .ok (.aload_n 0, 1) := by decide +kernel
theorem dX2_outside_78 : decode cX2_outside 78 = .ok (.getfield 72, 3) := by decide +kernel
theorem dX2_outside_81 : decode cX2_outside 81 = .ok (.iload 7, 2) := by decide +kernel
theorem dX2_outside_83 : decode cX2_outside 83 = .ok (.iconst 1, 1) := by decide +kernel
theorem dX2_outside_84 : decode cX2_outside 84 = .ok (.invokevirtual 130, 3) := by decide +kernel
theorem dX2_outside_87 : decode cX2_outside 87 = .ok (.lload 4, 2) := by decide +kernel
theorem dX2_outside_89 : decode cX2_outside 89 = .ok (.lcmp, 1) := by decide +kernel
theorem dX2_outside_90 : decode cX2_outside 90 = .ok (.ifCond .le 12, 3) := by decide +kernel
theorem dX2_outside_93 : decode cX2_outside 93 = .ok (.iload 6, 2) := by decide +kernel
theorem dX2_outside_95 : decode cX2_outside 95 = .ok (.iconst 1, 1) := by decide +kernel
theorem dX2_outside_96 : decode cX2_outside 96 = .ok (.iload 7, 2) := by decide +kernel
theorem dX2_outside_98 : decode cX2_outside 98 = .ok (.ishl, 1) := by decide +kernel
theorem dX2_outside_99 : decode cX2_outside 99 = .ok (.ior, 1) := by decide +kernel
theorem dX2_outside_100 : decode cX2_outside 100 = .ok (.istore 6, 2) := by decide +kernel
theorem dX2_outside_102 : decode cX2_outside 102 = .ok (.iinc 7 1, 3) := by decide +kernel
theorem dX2_outside_105 : decode cX2_outside 105 = .ok (.goto (-69), 3) := by decide +kernel
theorem dX2_outside_108 : decode cX2_outside 108 = .ok (.iload 6, 2) := by decide +kernel
theorem dX2_outside_110 : decode cX2_outside 110 = .ok (.ireturn, 1) := by decide +kernel
theorem dX2_roundsTo_0 : decode cX2_roundsTo 0 = .ok (.iload_n 1, 1) := by decide +kernel
theorem dX2_roundsTo_1 : decode cX2_roundsTo 1 = .ok (.iload_n 2, 1) := by decide +kernel
theorem dX2_roundsTo_2 : decode cX2_roundsTo 2 = .ok (.iload_n 3, 1) := by decide +kernel
theorem dX2_roundsTo_3 : decode cX2_roundsTo 3 = .ok (.invokestatic 118, 3) := by decide +kernel
theorem dX2_roundsTo_6 : decode cX2_roundsTo 6 = .ok (.ifCond .ne 7, 3) := by decide +kernel
theorem dX2_roundsTo_9 : decode cX2_roundsTo 9 = .ok (.sipush (-1002), 3) := by decide +kernel
theorem dX2_roundsTo_12 : decode cX2_roundsTo 12 = .ok (.ireturn, 1) := by decide +kernel
theorem dX2_roundsTo_13 : decode cX2_roundsTo 13 = .ok (.aload_n 0, 1) := by decide +kernel
theorem dX2_roundsTo_14 : decode cX2_roundsTo 14 = .ok (.getfield 72, 3) := by decide +kernel
theorem dX2_roundsTo_17 : decode cX2_roundsTo 17 = .ok (.istore 4, 2) := by decide +kernel
theorem dX2_roundsTo_19 : decode cX2_roundsTo 19 = .ok (.aload_n 0, 1) := by decide +kernel
theorem dX2_roundsTo_20 : decode cX2_roundsTo 20 = .ok (.iload_n 1, 1) := by decide +kernel
theorem dX2_roundsTo_21 : decode cX2_roundsTo 21 = .ok (.iload_n 2, 1) := by decide +kernel
theorem dX2_roundsTo_22 : decode cX2_roundsTo 22 = .ok (.iload_n 3, 1) := by decide +kernel
theorem dX2_roundsTo_23 : decode cX2_roundsTo 23 = .ok (.invokevirtual 121, 3) := by decide +kernel
theorem dX2_roundsTo_26 : decode cX2_roundsTo 26 = .ok (.istore 5, 2) := by decide +kernel
theorem dX2_roundsTo_28 : decode cX2_roundsTo 28 = .ok (.aload_n 0, 1) := by decide +kernel
theorem dX2_roundsTo_29 : decode cX2_roundsTo 29 = .ok (.iload 4, 2) := by decide +kernel
theorem dX2_roundsTo_31 : decode cX2_roundsTo 31 = .ok (.putfield 72, 3) := by decide +kernel
theorem dX2_roundsTo_34 : decode cX2_roundsTo 34 = .ok (.iload 5, 2) := by decide +kernel
theorem dX2_roundsTo_36 : decode cX2_roundsTo 36 = .ok (.ireturn, 1) := by decide +kernel
theorem dX2_worstStrategy_0 : decode cX2_worstStrategy 0 = .ok (.aload_n 0, 1) := by decide +kernel
theorem dX2_worstStrategy_1 : decode cX2_worstStrategy 1 = .ok (.iload_n 1, 1) := by decide +kernel
theorem dX2_worstStrategy_2 : decode cX2_worstStrategy 2 = .ok (.invokevirtual 68, 3) := by decide +kernel
theorem dX2_worstStrategy_5 : decode cX2_worstStrategy 5 = .ok (.ifCond .ne 7, 3) := by decide +kernel
theorem dX2_worstStrategy_8 : decode cX2_worstStrategy 8 = .ok (.sipush (-1001), 3) := by decide +kernel
theorem dX2_worstStrategy_11 : decode cX2_worstStrategy 11 = .ok (.ireturn, 1) := by decide +kernel
theorem dX2_worstStrategy_12 : decode cX2_worstStrategy 12 = .ok (.iload_n 2, 1) := by decide +kernel
theorem dX2_worstStrategy_13 : decode cX2_worstStrategy 13 = .ok (.iconst 1, 1) := by decide +kernel
theorem dX2_worstStrategy_14 : decode cX2_worstStrategy 14 = .ok (.bipush 10, 2) := by decide +kernel
theorem dX2_worstStrategy_16 : decode cX2_worstStrategy 16 = .ok (.invokestatic 49, 3) := by decide +kernel
theorem dX2_worstStrategy_19 : decode cX2_worstStrategy 19 = .ok (.ifCond .ne 7, 3) := by decide +kernel
theorem dX2_worstStrategy_22 : decode cX2_worstStrategy 22 = .ok (.sipush (-1002), 3) := by decide +kernel
theorem dX2_worstStrategy_25 : decode cX2_worstStrategy 25 = .ok (.ireturn, 1) := by decide +kernel
theorem dX2_worstStrategy_26 : decode cX2_worstStrategy 26 = .ok (.aload_n 0, 1) := by decide +kernel
theorem dX2_worstStrategy_27 : decode cX2_worstStrategy 27 = .ok (.iload_n 1, 1) := by decide +kernel
theorem dX2_worstStrategy_28 : decode cX2_worstStrategy 28 = .ok (.invokevirtual 125, 3) := by decide +kernel
theorem dX2_worstStrategy_31 : decode cX2_worstStrategy 31 = .ok (.ifCond .eq 7, 3) := by decide +kernel
theorem dX2_worstStrategy_34 : decode cX2_worstStrategy 34 = .ok (.sipush (-1003), 3) := by decide +kernel
theorem dX2_worstStrategy_37 : decode cX2_worstStrategy 37 = .ok (.ireturn, 1) := by decide +kernel
theorem dX2_worstStrategy_38 : decode cX2_worstStrategy 38 = .ok (.aload_n 0, 1) := by decide +kernel
theorem dX2_worstStrategy_39 : decode cX2_worstStrategy 39 = .ok (.getfield 72, 3) := by decide +kernel
theorem dX2_worstStrategy_42 : decode cX2_worstStrategy 42 = .ok (.iload_n 2, 1) := by decide +kernel
theorem dX2_worstStrategy_43 : decode cX2_worstStrategy 43 = .ok (.iadd, 1) := by decide +kernel
theorem dX2_worstStrategy_44 : decode cX2_worstStrategy 44 = .ok (.bipush 60, 2) := by decide +kernel
theorem dX2_worstStrategy_46 : decode cX2_worstStrategy 46 = .ok (.if_icmp .le 7, 3) := by decide +kernel
theorem dX2_worstStrategy_49 : decode cX2_worstStrategy 49 = .ok (.sipush (-1004), 3) := by decide +kernel
theorem dX2_worstStrategy_52 : decode cX2_worstStrategy 52 = .ok (.ireturn, 1) := by decide +kernel
theorem dX2_worstStrategy_53 : decode cX2_worstStrategy 53 = .ok (.aload_n 0, 1) := by decide +kernel
theorem dX2_worstStrategy_54 : decode cX2_worstStrategy 54 = .ok (.getfield 34, 3) := by decide +kernel
theorem dX2_worstStrategy_57 : decode cX2_worstStrategy 57 = .ok (.iload_n 1, 1) := by decide +kernel
theorem dX2_worstStrategy_58 : decode cX2_worstStrategy 58 = .ok (.iaload, 1) := by decide +kernel
theorem dX2_worstStrategy_59 : decode cX2_worstStrategy 59 = .ok (.istore_n 3, 1) := by decide +kernel
theorem dX2_worstStrategy_60 : decode cX2_worstStrategy 60 = .ok (.iconst 1, 1) := by decide +kernel
theorem dX2_worstStrategy_61 : decode cX2_worstStrategy 61 = .ok (.istore 4, 2) := by decide +kernel
theorem dX2_worstStrategy_63 : decode cX2_worstStrategy 63 = .ok (.ldc2_w 172, 3) := by decide +kernel
theorem dX2_worstStrategy_66 : decode cX2_worstStrategy 66 = .ok (.lstore 5, 2) := by decide +kernel
theorem dX2_worstStrategy_68 : decode cX2_worstStrategy 68 = .ok (.iconst 1, 1) := by decide +kernel
theorem dX2_worstStrategy_69 : decode cX2_worstStrategy 69 = .ok (.istore 7, 2) := by decide +kernel
theorem dX2_worstStrategy_71 : decode cX2_worstStrategy 71 = .ok (.iload 7, 2) := by decide +kernel
theorem dX2_worstStrategy_73 : decode cX2_worstStrategy 73 = .ok (.iconst 5, 1) := by decide +kernel
theorem dX2_worstStrategy_74 : decode cX2_worstStrategy 74 = .ok (.if_icmp .gt 40, 3) := by decide +kernel
theorem dX2_worstStrategy_77 : decode cX2_worstStrategy 77 = .ok (.aload_n 0, 1) := by decide +kernel
theorem dX2_worstStrategy_78 : decode cX2_worstStrategy 78 = .ok (.getfield 34, 3) := by decide +kernel
theorem dX2_worstStrategy_81 : decode cX2_worstStrategy 81 = .ok (.iload_n 1, 1) := by decide +kernel
theorem dX2_worstStrategy_82 : decode cX2_worstStrategy 82 = .ok (.iload 7, 2) := by decide +kernel
theorem dX2_worstStrategy_84 : decode cX2_worstStrategy 84 = .ok (.iastore, 1) := by decide +kernel
theorem dX2_worstStrategy_85 : decode cX2_worstStrategy 85 = .ok (.aload_n 0, 1) := by decide +kernel
theorem dX2_worstStrategy_86 : decode cX2_worstStrategy 86 = .ok (.iload_n 2, 1) := by decide +kernel
theorem dX2_worstStrategy_87 : decode cX2_worstStrategy 87 = .ok (.invokevirtual 174, 3) := by decide +kernel
theorem dX2_worstStrategy_90 : decode cX2_worstStrategy 90 = .ok (.lstore 8, 2) := by decide +kernel
theorem dX2_worstStrategy_92 : decode cX2_worstStrategy 92 = .ok (.lload 8, 2) := by decide +kernel
theorem dX2_worstStrategy_94 : decode cX2_worstStrategy 94 = .ok (.lload 5, 2) := by decide +kernel
theorem dX2_worstStrategy_96 : decode cX2_worstStrategy 96 = .ok (.lcmp, 1) := by decide +kernel
theorem dX2_worstStrategy_97 : decode cX2_worstStrategy 97 = .ok (.ifCond .le 11, 3) := by decide +kernel
theorem dX2_worstStrategy_100 : decode cX2_worstStrategy 100 = .ok (.lload 8, 2) := by decide +kernel
theorem dX2_worstStrategy_102 : decode cX2_worstStrategy 102 = .ok (.lstore 5, 2) := by decide +kernel
theorem dX2_worstStrategy_104 : decode cX2_worstStrategy 104 = .ok (.iload 7, 2) := by decide +kernel
theorem dX2_worstStrategy_106 : decode cX2_worstStrategy 106 = .ok (.istore 4, 2) := by decide +kernel
theorem dX2_worstStrategy_108 : decode cX2_worstStrategy 108 = .ok (.iinc 7 1, 3) := by decide +kernel
theorem dX2_worstStrategy_111 : decode cX2_worstStrategy 111 = .ok (.goto (-40), 3) := by decide +kernel
theorem dX2_worstStrategy_114 : decode cX2_worstStrategy 114 = .ok (.aload_n 0, 1) := by decide +kernel
theorem dX2_worstStrategy_115 : decode cX2_worstStrategy 115 = .ok (.getfield 34, 3) := by decide +kernel
theorem dX2_worstStrategy_118 : decode cX2_worstStrategy 118 = .ok (.iload_n 1, 1) := by decide +kernel
theorem dX2_worstStrategy_119 : decode cX2_worstStrategy 119 = .ok (.iload_n 3, 1) := by decide +kernel
theorem dX2_worstStrategy_120 : decode cX2_worstStrategy 120 = .ok (.iastore, 1) := by decide +kernel
theorem dX2_worstStrategy_121 : decode cX2_worstStrategy 121 = .ok (.iload 4, 2) := by decide +kernel
theorem dX2_worstStrategy_123 : decode cX2_worstStrategy 123 = .ok (.ireturn, 1) := by decide +kernel
theorem dX2_bestRule_0 : decode cX2_bestRule 0 = .ok (.iload_n 1, 1) := by decide +kernel
theorem dX2_bestRule_1 : decode cX2_bestRule 1 = .ok (.iconst 1, 1) := by decide +kernel
theorem dX2_bestRule_2 : decode cX2_bestRule 2 = .ok (.bipush 10, 2) := by decide +kernel
theorem dX2_bestRule_4 : decode cX2_bestRule 4 = .ok (.invokestatic 49, 3) := by decide +kernel
theorem dX2_bestRule_7 : decode cX2_bestRule 7 = .ok (.ifCond .ne 7, 3) := by decide +kernel
theorem dX2_bestRule_10 : decode cX2_bestRule 10 = .ok (.sipush (-1002), 3) := by decide +kernel
theorem dX2_bestRule_13 : decode cX2_bestRule 13 = .ok (.ireturn, 1) := by decide +kernel
theorem dX2_bestRule_14 : decode cX2_bestRule 14 = .ok (.aload_n 0, 1) := by decide +kernel
theorem dX2_bestRule_15 : decode cX2_bestRule 15 = .ok (.getfield 72, 3) := by decide +kernel
theorem dX2_bestRule_18 : decode cX2_bestRule 18 = .ok (.iload_n 1, 1) := by decide +kernel
theorem dX2_bestRule_19 : decode cX2_bestRule 19 = .ok (.iadd, 1) := by decide +kernel
theorem dX2_bestRule_20 : decode cX2_bestRule 20 = .ok (.bipush 60, 2) := by decide +kernel
theorem dX2_bestRule_22 : decode cX2_bestRule 22 = .ok (.if_icmp .le 7, 3) := by decide +kernel
theorem dX2_bestRule_25 : decode cX2_bestRule 25 = .ok (.sipush (-1004), 3) := by decide +kernel
theorem dX2_bestRule_28 : decode cX2_bestRule 28 = .ok (.ireturn, 1) := by decide +kernel
theorem dX2_bestRule_29 : decode cX2_bestRule 29 = .ok (.aload_n 0, 1) := by decide +kernel
theorem dX2_bestRule_30 : decode cX2_bestRule 30 = .ok (.getfield 98, 3) := by decide +kernel
theorem dX2_bestRule_33 : decode cX2_bestRule 33 = .ok (.istore_n 2, 1) := by decide +kernel
theorem dX2_bestRule_34 : decode cX2_bestRule 34 = .ok (.iconst 0, 1) := by decide +kernel
theorem dX2_bestRule_35 : decode cX2_bestRule 35 = .ok (.istore_n 3, 1) := by decide +kernel
theorem dX2_bestRule_36 : decode cX2_bestRule 36 = .ok (.lconst 0, 1) := by decide +kernel
theorem dX2_bestRule_37 : decode cX2_bestRule 37 = .ok (.lstore 4, 2) := by decide +kernel
theorem dX2_bestRule_39 : decode cX2_bestRule 39 = .ok (.iconst 0, 1) := by decide +kernel
theorem dX2_bestRule_40 : decode cX2_bestRule 40 = .ok (.istore 6, 2) := by decide +kernel
theorem dX2_bestRule_42 : decode cX2_bestRule 42 = .ok (.iload 6, 2) := by decide +kernel
theorem dX2_bestRule_44 : decode cX2_bestRule 44 = .ok (.iconst 3, 1) := by decide +kernel
theorem dX2_bestRule_45 : decode cX2_bestRule 45 = .ok (.if_icmp .gt 42, 3) := by decide +kernel
theorem dX2_bestRule_48 : decode cX2_bestRule 48 = .ok (.aload_n 0, 1) := by decide +kernel
theorem dX2_bestRule_49 : decode cX2_bestRule 49 = .ok (.iload 6, 2) := by decide +kernel
theorem dX2_bestRule_51 : decode cX2_bestRule 51 = .ok (.putfield 98, 3) := by decide +kernel
theorem dX2_bestRule_54 : decode cX2_bestRule 54 = .ok (.aload_n 0, 1) := by decide +kernel
theorem dX2_bestRule_55 : decode cX2_bestRule 55 = .ok (.iload_n 1, 1) := by decide +kernel
theorem dX2_bestRule_56 : decode cX2_bestRule 56 = .ok (.invokevirtual 174, 3) := by decide +kernel
theorem dX2_bestRule_59 : decode cX2_bestRule 59 = .ok (.lstore 7, 2) := by decide +kernel
theorem dX2_bestRule_61 : decode cX2_bestRule 61 = .ok (.iload 6, 2) := by decide +kernel
theorem dX2_bestRule_63 : decode cX2_bestRule 63 = .ok (.ifCond .eq 11, 3) := by decide +kernel
theorem dX2_bestRule_66 : decode cX2_bestRule 66 = .ok (.lload 7, 2) := by decide +kernel
theorem dX2_bestRule_68 : decode cX2_bestRule 68 = .ok (.lload 4, 2) := by decide +kernel
theorem dX2_bestRule_70 : decode cX2_bestRule 70 = .ok (.lcmp, 1) := by decide +kernel
theorem dX2_bestRule_71 : decode cX2_bestRule 71 = .ok (.ifCond .ge 10, 3) := by decide +kernel
theorem dX2_bestRule_74 : decode cX2_bestRule 74 = .ok (.lload 7, 2) := by decide +kernel
theorem dX2_bestRule_76 : decode cX2_bestRule 76 = .ok (.lstore 4, 2) := by decide +kernel
theorem dX2_bestRule_78 : decode cX2_bestRule 78 = .ok (.iload 6, 2) := by decide +kernel
theorem dX2_bestRule_80 : decode cX2_bestRule 80 = .ok (.istore_n 3, 1) := by decide +kernel
theorem dX2_bestRule_81 : decode cX2_bestRule 81 = .ok (.iinc 6 1, 3) := by decide +kernel
theorem dX2_bestRule_84 : decode cX2_bestRule 84 = .ok (.goto (-42), 3) := by decide +kernel
theorem dX2_bestRule_87 : decode cX2_bestRule 87 = .ok (.aload_n 0, 1) := by decide +kernel
theorem dX2_bestRule_88 : decode cX2_bestRule 88 = .ok (.iload_n 2, 1) := by decide +kernel
theorem dX2_bestRule_89 : decode cX2_bestRule 89 = .ok (.putfield 98, 3) := by decide +kernel
theorem dX2_bestRule_92 : decode cX2_bestRule 92 = .ok (.iload_n 3, 1) := by decide +kernel
theorem dX2_bestRule_93 : decode cX2_bestRule 93 = .ok (.ireturn, 1) := by decide +kernel
theorem dX2_startAnew_0 : decode cX2_startAnew 0 = .ok (.aload_n 0, 1) := by decide +kernel
theorem dX2_startAnew_1 : decode cX2_startAnew 1 = .ok (.iload_n 1, 1) := by decide +kernel
theorem dX2_startAnew_2 : decode cX2_startAnew 2 = .ok (.putfield 53, 3) := by decide +kernel
theorem dX2_startAnew_5 : decode cX2_startAnew 5 = .ok (.aload_n 0, 1) := by decide +kernel
theorem dX2_startAnew_6 : decode cX2_startAnew 6 = .ok (.iload_n 2, 1) := by decide +kernel
theorem dX2_startAnew_7 : decode cX2_startAnew 7 = .ok (.putfield 101, 3) := by decide +kernel
theorem dX2_startAnew_10 : decode cX2_startAnew 10 = .ok (.aload_n 0, 1) := by decide +kernel
theorem dX2_startAnew_11 : decode cX2_startAnew 11 = .ok (.iload_n 3, 1) := by decide +kernel
theorem dX2_startAnew_12 : decode cX2_startAnew 12 = .ok (.putfield 83, 3) := by decide +kernel
theorem dX2_startAnew_15 : decode cX2_startAnew 15 = .ok (.aload_n 0, 1) := by decide +kernel
theorem dX2_startAnew_16 : decode cX2_startAnew 16 = .ok (.iconst 0, 1) := by decide +kernel
theorem dX2_startAnew_17 : decode cX2_startAnew 17 = .ok (.putfield 72, 3) := by decide +kernel
theorem dX2_startAnew_20 : decode cX2_startAnew 20 = .ok (.aload_n 0, 1) := by decide +kernel
theorem dX2_startAnew_21 : decode cX2_startAnew 21 = .ok (.iconst 0, 1) := by decide +kernel
theorem dX2_startAnew_22 : decode cX2_startAnew 22 = .ok (.putfield 98, 3) := by decide +kernel
theorem dX2_startAnew_25 : decode cX2_startAnew 25 = .ok (.aload_n 0, 1) := by decide +kernel
theorem dX2_startAnew_26 : decode cX2_startAnew 26 = .ok (.getfield 23, 3) := by decide +kernel
theorem dX2_startAnew_29 : decode cX2_startAnew 29 = .ok (.iconst 0, 1) := by decide +kernel
theorem dX2_startAnew_30 : decode cX2_startAnew 30 = .ok (.invokevirtual 177, 3) := by decide +kernel
theorem dX2_startAnew_33 : decode cX2_startAnew 33 = .ok (.iconst 0, 1) := by decide +kernel
theorem dX2_startAnew_34 : decode cX2_startAnew 34 = .ok (.istore 4, 2) := by decide +kernel
theorem dX2_startAnew_36 : decode cX2_startAnew 36 = .ok (.iload 4, 2) := by decide +kernel
theorem dX2_startAnew_38 : decode cX2_startAnew 38 = .ok (.bipush 10, 2) := by decide +kernel
theorem dX2_startAnew_40 : decode cX2_startAnew 40 = .ok (.if_icmp .ge 26, 3) := by decide +kernel
theorem dX2_startAnew_43 : decode cX2_startAnew 43 = .ok (.aload_n 0, 1) := by decide +kernel
theorem dX2_startAnew_44 : decode cX2_startAnew 44 = .ok (.getfield 34, 3) := by decide +kernel
theorem dX2_startAnew_47 : decode cX2_startAnew 47 = .ok (.iload 4, 2) := by decide +kernel
theorem dX2_startAnew_49 : decode cX2_startAnew 49 = .ok (.iconst 0, 1) := by decide +kernel
theorem dX2_startAnew_50 : decode cX2_startAnew 50 = .ok (.iastore, 1) := by decide +kernel
theorem dX2_startAnew_51 : decode cX2_startAnew 51 = .ok (.aload_n 0, 1) := by decide +kernel
theorem dX2_startAnew_52 : decode cX2_startAnew 52 = .ok (.getfield 27, 3) := by decide +kernel
theorem dX2_startAnew_55 : decode cX2_startAnew 55 = .ok (.iload 4, 2) := by decide +kernel
theorem dX2_startAnew_57 : decode cX2_startAnew 57 = .ok (.invokevirtual 177, 3) := by decide +kernel
theorem dX2_startAnew_60 : decode cX2_startAnew 60 = .ok (.iinc 4 1, 3) := by decide +kernel
theorem dX2_startAnew_63 : decode cX2_startAnew 63 = .ok (.goto (-27), 3) := by decide +kernel
theorem dX2_startAnew_66 : decode cX2_startAnew 66 = .ok (.iconst 0, 1) := by decide +kernel
theorem dX2_startAnew_67 : decode cX2_startAnew 67 = .ok (.istore 4, 2) := by decide +kernel
theorem dX2_startAnew_69 : decode cX2_startAnew 69 = .ok (.iload 4, 2) := by decide +kernel
theorem dX2_startAnew_71 : decode cX2_startAnew 71 = .ok (.aload_n 0, 1) := by decide +kernel
theorem dX2_startAnew_72 : decode cX2_startAnew 72 = .ok (.getfield 30, 3) := by decide +kernel
theorem dX2_startAnew_75 : decode cX2_startAnew 75 = .ok (.arraylength, 1) := by decide +kernel
theorem dX2_startAnew_76 : decode cX2_startAnew 76 = .ok (.if_icmp .ge 17, 3) := by decide +kernel
theorem dX2_startAnew_79 : decode cX2_startAnew 79 = .ok (.aload_n 0, 1) := by decide +kernel
theorem dX2_startAnew_80 : decode cX2_startAnew 80 = .ok (.getfield 30, 3) := by decide +kernel
theorem dX2_startAnew_83 : decode cX2_startAnew 83 = .ok (.iload 4, 2) := by decide +kernel
theorem dX2_startAnew_85 : decode cX2_startAnew 85 = .ok (.iconst 0, 1) := by decide +kernel
theorem dX2_startAnew_86 : decode cX2_startAnew 86 = .ok (.iastore, 1) := by decide +kernel
theorem dX2_startAnew_87 : decode cX2_startAnew 87 = .ok (.iinc 4 1, 3) := by decide +kernel
theorem dX2_startAnew_90 : decode cX2_startAnew 90 = .ok (.goto (-21), 3) := by decide +kernel
theorem dX2_startAnew_93 : decode cX2_startAnew 93 = .ok (.return_, 1) := by decide +kernel
theorem dX2_readTextInto_0 : decode cX2_readTextInto 0 = .ok (.aload_n 0, 1) := by decide +kernel
theorem dX2_readTextInto_1 : decode cX2_readTextInto 1 = .ok (.getfield 12, 3) := by decide +kernel
theorem dX2_readTextInto_4 : decode cX2_readTextInto 4 = .ok (.aload_n 0, 1) := by decide +kernel
theorem dX2_readTextInto_5 : decode cX2_readTextInto 5 = .ok (.getfield 83, 3) := by decide +kernel
theorem dX2_readTextInto_8 : decode cX2_readTextInto 8 = .ok (.invokevirtual 180, 3) := by decide +kernel
theorem dX2_readTextInto_11 : decode cX2_readTextInto 11 = .ok (.istore 4, 2) := by decide +kernel
theorem dX2_readTextInto_13 : decode cX2_readTextInto 13 = .ok (.iload 4, 2) := by decide +kernel
theorem dX2_readTextInto_15 : decode cX2_readTextInto 15 = .ok (.iconst (-1), 1) := by decide +kernel
theorem dX2_readTextInto_16 : decode cX2_readTextInto 16 = .ok (.if_icmp .eq 9, 3) := by decide +kernel
theorem dX2_readTextInto_19 : decode cX2_readTextInto 19 = .ok (.bipush (-100), 2) := by decide +kernel
theorem dX2_readTextInto_21 : decode cX2_readTextInto 21 = .ok (.iload 4, 2) := by decide +kernel
theorem dX2_readTextInto_23 : decode cX2_readTextInto 23 = .ok (.isub, 1) := by decide +kernel
theorem dX2_readTextInto_24 : decode cX2_readTextInto 24 = .ok (.ireturn, 1) := by decide +kernel
theorem dX2_readTextInto_25 : decode cX2_readTextInto 25 = .ok (.aload_n 1, 1) := by decide +kernel
theorem dX2_readTextInto_26 : decode cX2_readTextInto 26 = .ok (.iload_n 2, 1) := by decide +kernel
theorem dX2_readTextInto_27 : decode cX2_readTextInto 27 = .ok (.iload_n 3, 1) := by decide +kernel
theorem dX2_readTextInto_28 : decode cX2_readTextInto 28 = .ok (.aload_n 0, 1) := by decide +kernel
theorem dX2_readTextInto_29 : decode cX2_readTextInto 29 = .ok (.getfield 12, 3) := by decide +kernel
theorem dX2_readTextInto_32 : decode cX2_readTextInto 32 = .ok (.invokevirtual 183, 3) := by decide +kernel
theorem dX2_readTextInto_35 : decode cX2_readTextInto 35 = .ok (.aload_n 0, 1) := by decide +kernel
theorem dX2_readTextInto_36 : decode cX2_readTextInto 36 = .ok (.getfield 12, 3) := by decide +kernel
theorem dX2_readTextInto_39 : decode cX2_readTextInto 39 = .ok (.invokevirtual 187, 3) := by decide +kernel
theorem dX2_readTextInto_42 : decode cX2_readTextInto 42 = .ok (.invokevirtual 190, 3) := by decide +kernel
theorem dX2_readTextInto_45 : decode cX2_readTextInto 45 = .ok (.iconst 1, 1) := by decide +kernel
theorem dX2_readTextInto_46 : decode cX2_readTextInto 46 = .ok (.ireturn, 1) := by decide +kernel
theorem dX2_isWithin_0 : decode cX2_isWithin 0 = .ok (.iload_n 0, 1) := by decide +kernel
theorem dX2_isWithin_1 : decode cX2_isWithin 1 = .ok (.iload_n 1, 1) := by decide +kernel
theorem dX2_isWithin_2 : decode cX2_isWithin 2 = .ok (.if_icmp .lt 12, 3) := by decide +kernel
theorem dX2_isWithin_5 : decode cX2_isWithin 5 = .ok (.iload_n 0, 1) := by decide +kernel
theorem dX2_isWithin_6 : decode cX2_isWithin 6 = .ok (.iload_n 2, 1) := by decide +kernel
theorem dX2_isWithin_7 : decode cX2_isWithin 7 = .ok (.if_icmp .gt 7, 3) := by decide +kernel
theorem dX2_isWithin_10 : decode cX2_isWithin 10 = .ok (.iconst 1, 1) := by decide +kernel
theorem dX2_isWithin_11 : decode cX2_isWithin 11 = .ok (.goto 4, 3) := by decide +kernel
theorem dX2_isWithin_14 : decode cX2_isWithin 14 = .ok (.iconst 0, 1) := by decide +kernel
theorem dX2_isWithin_15 : decode cX2_isWithin 15 = .ok (.ireturn, 1) := by decide +kernel
theorem dX2_isNode_0 : decode cX2_isNode 0 = .ok (.iload_n 1, 1) := by decide +kernel
theorem dX2_isNode_1 : decode cX2_isNode 1 = .ok (.ifCond .lt 15, 3) := by decide +kernel
theorem dX2_isNode_4 : decode cX2_isNode 4 = .ok (.iload_n 1, 1) := by decide +kernel
theorem dX2_isNode_5 : decode cX2_isNode 5 = .ok (.aload_n 0, 1) := by decide +kernel
theorem dX2_isNode_6 : decode cX2_isNode 6 = .ok (.getfield 53, 3) := by decide +kernel
theorem dX2_isNode_9 : decode cX2_isNode 9 = .ok (.if_icmp .ge 7, 3) := by decide +kernel
theorem dX2_isNode_12 : decode cX2_isNode 12 = .ok (.iconst 1, 1) := by decide +kernel
theorem dX2_isNode_13 : decode cX2_isNode 13 = .ok (.goto 4, 3) := by decide +kernel
theorem dX2_isNode_16 : decode cX2_isNode 16 = .ok (.iconst 0, 1) := by decide +kernel
theorem dX2_isNode_17 : decode cX2_isNode 17 = .ok (.ireturn, 1) := by decide +kernel
theorem dX2_areTwoNodes_0 : decode cX2_areTwoNodes 0 = .ok (.aload_n 0, 1) := by decide +kernel
theorem dX2_areTwoNodes_1 : decode cX2_areTwoNodes 1 = .ok (.iload_n 1, 1) := by decide +kernel
theorem dX2_areTwoNodes_2 : decode cX2_areTwoNodes 2 = .ok (.invokevirtual 68, 3) := by decide +kernel
theorem dX2_areTwoNodes_5 : decode cX2_areTwoNodes 5 = .ok (.ifCond .eq 20, 3) := by decide +kernel
theorem dX2_areTwoNodes_8 : decode cX2_areTwoNodes 8 = .ok (.aload_n 0, 1) := by decide +kernel
theorem dX2_areTwoNodes_9 : decode cX2_areTwoNodes 9 = .ok (.iload_n 2, 1) := by decide +kernel
theorem dX2_areTwoNodes_10 : decode cX2_areTwoNodes 10 = .ok (.invokevirtual 68, 3) := by decide +kernel
theorem dX2_areTwoNodes_13 : decode cX2_areTwoNodes 13 = .ok (.ifCond .eq 12, 3) := by decide +kernel
theorem dX2_areTwoNodes_16 : decode cX2_areTwoNodes 16 = .ok (.iload_n 1, 1) := by decide +kernel
theorem dX2_areTwoNodes_17 : decode cX2_areTwoNodes 17 = .ok (.iload_n 2, 1) := by decide +kernel
theorem dX2_areTwoNodes_18 : decode cX2_areTwoNodes 18 = .ok (.if_icmp .eq 7, 3) := by decide +kernel
theorem dX2_areTwoNodes_21 : decode cX2_areTwoNodes 21 = .ok (.iconst 1, 1) := by decide +kernel
theorem dX2_areTwoNodes_22 : decode cX2_areTwoNodes 22 = .ok (.goto 4, 3) := by decide +kernel
theorem dX2_areTwoNodes_25 : decode cX2_areTwoNodes 25 = .ok (.iconst 0, 1) := by decide +kernel
theorem dX2_areTwoNodes_26 : decode cX2_areTwoNodes 26 = .ok (.ireturn, 1) := by decide +kernel
theorem dX2_isCorrect_0 : decode cX2_isCorrect 0 = .ok (.iload_n 1, 1) := by decide +kernel
theorem dX2_isCorrect_1 : decode cX2_isCorrect 1 = .ok (.ifCond .lt 24, 3) := by decide +kernel
theorem dX2_isCorrect_4 : decode cX2_isCorrect 4 = .ok (.iload_n 1, 1) := by decide +kernel
theorem dX2_isCorrect_5 : decode cX2_isCorrect 5 = .ok (.aload_n 0, 1) := by decide +kernel
theorem dX2_isCorrect_6 : decode cX2_isCorrect 6 = .ok (.getfield 53, 3) := by decide +kernel
theorem dX2_isCorrect_9 : decode cX2_isCorrect 9 = .ok (.if_icmp .ge 16, 3) := by decide +kernel
theorem dX2_isCorrect_12 : decode cX2_isCorrect 12 = .ok (.aload_n 0, 1) := by decide +kernel
theorem dX2_isCorrect_13 : decode cX2_isCorrect 13 = .ok (.getfield 34, 3) := by decide +kernel
theorem dX2_isCorrect_16 : decode cX2_isCorrect 16 = .ok (.iload_n 1, 1) := by decide +kernel
theorem dX2_isCorrect_17 : decode cX2_isCorrect 17 = .ok (.iaload, 1) := by decide +kernel
theorem dX2_isCorrect_18 : decode cX2_isCorrect 18 = .ok (.ifCond .ne 7, 3) := by decide +kernel
theorem dX2_isCorrect_21 : decode cX2_isCorrect 21 = .ok (.iconst 1, 1) := by decide +kernel
theorem dX2_isCorrect_22 : decode cX2_isCorrect 22 = .ok (.goto 4, 3) := by decide +kernel
theorem dX2_isCorrect_25 : decode cX2_isCorrect 25 = .ok (.iconst 0, 1) := by decide +kernel
theorem dX2_isCorrect_26 : decode cX2_isCorrect 26 = .ok (.ireturn, 1) := by decide +kernel
theorem dX2_isWidthGoal_0 : decode cX2_isWidthGoal 0 = .ok (.iload_n 0, 1) := by decide +kernel
theorem dX2_isWidthGoal_1 : decode cX2_isWidthGoal 1 = .ok (.iconst 0, 1) := by decide +kernel
theorem dX2_isWidthGoal_2 : decode cX2_isWidthGoal 2 = .ok (.sipush 1000, 3) := by decide +kernel
theorem dX2_isWidthGoal_5 : decode cX2_isWidthGoal 5 = .ok (.invokestatic 49, 3) := by decide +kernel
theorem dX2_isWidthGoal_8 : decode cX2_isWidthGoal 8 = .ok (.ifCond .eq 28, 3) := by decide +kernel
theorem dX2_isWidthGoal_11 : decode cX2_isWidthGoal 11 = .ok (.iload_n 1, 1) := by decide +kernel
theorem dX2_isWidthGoal_12 : decode cX2_isWidthGoal 12 = .ok (.iconst 1, 1) := by decide +kernel
theorem dX2_isWidthGoal_13 : decode cX2_isWidthGoal 13 = .ok (.sipush 1000, 3) := by decide +kernel
theorem dX2_isWidthGoal_16 : decode cX2_isWidthGoal 16 = .ok (.invokestatic 49, 3) := by decide +kernel
theorem dX2_isWidthGoal_19 : decode cX2_isWidthGoal 19 = .ok (.ifCond .eq 17, 3) := by decide +kernel
theorem dX2_isWidthGoal_22 : decode cX2_isWidthGoal 22 = .ok (.iload_n 2, 1) := by decide +kernel
theorem dX2_isWidthGoal_23 : decode cX2_isWidthGoal 23 = .ok (.iconst 0, 1) := by decide +kernel
theorem dX2_isWidthGoal_24 : decode cX2_isWidthGoal 24 = .ok (.bipush 60, 2) := by decide +kernel
theorem dX2_isWidthGoal_26 : decode cX2_isWidthGoal 26 = .ok (.invokestatic 49, 3) := by decide +kernel
theorem dX2_isWidthGoal_29 : decode cX2_isWidthGoal 29 = .ok (.ifCond .eq 7, 3) := by decide +kernel
theorem dX2_isWidthGoal_32 : decode cX2_isWidthGoal 32 = .ok (.iconst 1, 1) := by decide +kernel
theorem dX2_isWidthGoal_33 : decode cX2_isWidthGoal 33 = .ok (.goto 4, 3) := by decide +kernel
theorem dX2_isWidthGoal_36 : decode cX2_isWidthGoal 36 = .ok (.iconst 0, 1) := by decide +kernel
theorem dX2_isWidthGoal_37 : decode cX2_isWidthGoal 37 = .ok (.ireturn, 1) := by decide +kernel
theorem dX2_isOnGrid_0 : decode cX2_isOnGrid 0 = .ok (.lload_n 2, 1) := by decide +kernel
theorem dX2_isOnGrid_1 : decode cX2_isOnGrid 1 = .ok (.lconst 0, 1) := by decide +kernel
theorem dX2_isOnGrid_2 : decode cX2_isOnGrid 2 = .ok (.lcmp, 1) := by decide +kernel
theorem dX2_isOnGrid_3 : decode cX2_isOnGrid 3 = .ok (.ifCond .le 18, 3) := by decide +kernel
theorem dX2_isOnGrid_6 : decode cX2_isOnGrid 6 = .ok (.lload_n 0, 1) := by decide +kernel
theorem dX2_isOnGrid_7 : decode cX2_isOnGrid 7 = .ok (.lload 4, 2) := by decide +kernel
theorem dX2_isOnGrid_9 : decode cX2_isOnGrid 9 = .ok (.lmul, 1) := by decide +kernel
theorem dX2_isOnGrid_10 : decode cX2_isOnGrid 10 = .ok (.lload_n 2, 1) := by decide +kernel
theorem dX2_isOnGrid_11 : decode cX2_isOnGrid 11 = .ok (.lrem, 1) := by decide +kernel
theorem dX2_isOnGrid_12 : decode cX2_isOnGrid 12 = .ok (.lconst 0, 1) := by decide +kernel
theorem dX2_isOnGrid_13 : decode cX2_isOnGrid 13 = .ok (.lcmp, 1) := by decide +kernel
theorem dX2_isOnGrid_14 : decode cX2_isOnGrid 14 = .ok (.ifCond .ne 7, 3) := by decide +kernel
theorem dX2_isOnGrid_17 : decode cX2_isOnGrid 17 = .ok (.iconst 1, 1) := by decide +kernel
theorem dX2_isOnGrid_18 : decode cX2_isOnGrid 18 = .ok (.goto 4, 3) := by decide +kernel
theorem dX2_isOnGrid_21 : decode cX2_isOnGrid 21 = .ok (.iconst 0, 1) := by decide +kernel
theorem dX2_isOnGrid_22 : decode cX2_isOnGrid 22 = .ok (.ireturn, 1) := by decide +kernel
theorem dX2_inUnits_0 : decode cX2_inUnits 0 = .ok (.lload_n 2, 1) := by decide +kernel
theorem dX2_inUnits_1 : decode cX2_inUnits 1 = .ok (.lconst 0, 1) := by decide +kernel
theorem dX2_inUnits_2 : decode cX2_inUnits 2 = .ok (.lcmp, 1) := by decide +kernel
theorem dX2_inUnits_3 : decode cX2_inUnits 3 = .ok (.ifCond .le 12, 3) := by decide +kernel
theorem dX2_inUnits_6 : decode cX2_inUnits 6 = .ok (.lload_n 0, 1) := by decide +kernel
theorem dX2_inUnits_7 : decode cX2_inUnits 7 = .ok (.lload 4, 2) := by decide +kernel
theorem dX2_inUnits_9 : decode cX2_inUnits 9 = .ok (.lmul, 1) := by decide +kernel
theorem dX2_inUnits_10 : decode cX2_inUnits 10 = .ok (.lload_n 2, 1) := by decide +kernel
theorem dX2_inUnits_11 : decode cX2_inUnits 11 = .ok (.ldiv, 1) := by decide +kernel
theorem dX2_inUnits_12 : decode cX2_inUnits 12 = .ok (.goto 4, 3) := by decide +kernel
theorem dX2_inUnits_15 : decode cX2_inUnits 15 = .ok (.lconst 0, 1) := by decide +kernel
theorem dX2_inUnits_16 : decode cX2_inUnits 16 = .ok (.lreturn, 1) := by decide +kernel
theorem dX2_asFraction_0 : decode cX2_asFraction 0 = .ok (.lload_n 1, 1) := by decide +kernel
theorem dX2_asFraction_1 : decode cX2_asFraction 1 = .ok (.aload_n 0, 1) := by decide +kernel
theorem dX2_asFraction_2 : decode cX2_asFraction 2 = .ok (.getfield 83, 3) := by decide +kernel
theorem dX2_asFraction_5 : decode cX2_asFraction 5 = .ok (.i2l, 1) := by decide +kernel
theorem dX2_asFraction_6 : decode cX2_asFraction 6 = .ok (.iload_n 3, 1) := by decide +kernel
theorem dX2_asFraction_7 : decode cX2_asFraction 7 = .ok (.invokestatic 158, 3) := by decide +kernel
theorem dX2_asFraction_10 : decode cX2_asFraction 10 = .ok (.lreturn, 1) := by decide +kernel
theorem dX2_inLowestTerms_0 : decode cX2_inLowestTerms 0 = .ok (.lload_n 0, 1) := by decide +kernel
theorem dX2_inLowestTerms_1 : decode cX2_inLowestTerms 1 = .ok (.invokestatic 194, 3) := by decide +kernel
theorem dX2_inLowestTerms_4 : decode cX2_inLowestTerms 4 = .ok (.lload_n 2, 1) := by decide +kernel
theorem dX2_inLowestTerms_5 : decode cX2_inLowestTerms 5 = .ok (.invokestatic 200, 3) := by decide +kernel
theorem dX2_inLowestTerms_8 : decode cX2_inLowestTerms 8 = .ok (.lstore 5, 2) := by decide +kernel
theorem dX2_inLowestTerms_10 : decode cX2_inLowestTerms 10 = .ok (.lload 5, 2) := by decide +kernel
theorem dX2_inLowestTerms_12 : decode cX2_inLowestTerms 12 = .ok (.lconst 1, 1) := by decide +kernel
theorem dX2_inLowestTerms_13 : decode cX2_inLowestTerms 13 = .ok (.lcmp, 1) := by decide +kernel
theorem dX2_inLowestTerms_14 : decode cX2_inLowestTerms 14 = .ok (.ifCond .ge 7, 3) := by decide +kernel
theorem dX2_inLowestTerms_17 : decode cX2_inLowestTerms 17 = .ok (.ldc2_w 128, 3) := by decide +kernel
theorem dX2_inLowestTerms_20 : decode cX2_inLowestTerms 20 = .ok (.lreturn, 1) := by decide +kernel
theorem dX2_inLowestTerms_21 : decode cX2_inLowestTerms 21 = .ok (.iload 4, 2) := by decide +kernel
theorem dX2_inLowestTerms_23 : decode cX2_inLowestTerms 23 = .ok (.ifCond .eq 10, 3) := by decide +kernel
theorem dX2_inLowestTerms_26 : decode cX2_inLowestTerms 26 = .ok (.lload_n 2, 1) := by decide +kernel
theorem dX2_inLowestTerms_27 : decode cX2_inLowestTerms 27 = .ok (.lload 5, 2) := by decide +kernel
theorem dX2_inLowestTerms_29 : decode cX2_inLowestTerms 29 = .ok (.ldiv, 1) := by decide +kernel
theorem dX2_inLowestTerms_30 : decode cX2_inLowestTerms 30 = .ok (.goto 7, 3) := by decide +kernel
theorem dX2_inLowestTerms_33 : decode cX2_inLowestTerms 33 = .ok (.lload_n 0, 1) := by decide +kernel
theorem dX2_inLowestTerms_34 : decode cX2_inLowestTerms 34 = .ok (.lload 5, 2) := by decide +kernel
theorem dX2_inLowestTerms_36 : decode cX2_inLowestTerms 36 = .ok (.ldiv, 1) := by decide +kernel
theorem dX2_inLowestTerms_37 : decode cX2_inLowestTerms 37 = .ok (.lreturn, 1) := by decide +kernel
theorem dX2_greatestCommonDivisor_0 : decode cX2_greatestCommonDivisor 0 = .ok (.lload_n 0, 1) := by decide +kernel
theorem dX2_greatestCommonDivisor_1 : decode cX2_greatestCommonDivisor 1 = .ok (.lstore 4, 2) := by decide +kernel
theorem dX2_greatestCommonDivisor_3 : decode cX2_greatestCommonDivisor 3 = .ok (.lload_n 2, 1) := by decide +kernel
theorem dX2_greatestCommonDivisor_4 : decode cX2_greatestCommonDivisor 4 = .ok (.lstore 6, 2) := by decide +kernel
theorem dX2_greatestCommonDivisor_6 : decode cX2_greatestCommonDivisor 6 = .ok (.iconst 0, 1) := by decide +kernel
theorem dX2_greatestCommonDivisor_7 : decode cX2_greatestCommonDivisor 7 = .ok (.istore 8, 2) := by decide +kernel
theorem dX2_greatestCommonDivisor_9 : decode cX2_greatestCommonDivisor 9 = .ok (.iload 8, 2) := by decide +kernel
theorem dX2_greatestCommonDivisor_11 : decode cX2_greatestCommonDivisor 11 = .ok (.sipush 1000, 3) := by decide +kernel
theorem dX2_greatestCommonDivisor_14 : decode cX2_greatestCommonDivisor 14 = .ok (.if_icmp .ge 31, 3) := by decide +kernel
theorem dX2_greatestCommonDivisor_17 : decode cX2_greatestCommonDivisor 17 = .ok (.lload 6, 2) := by decide +kernel
theorem dX2_greatestCommonDivisor_19 : decode cX2_greatestCommonDivisor 19 = .ok (.lconst 0, 1) := by decide +kernel
theorem dX2_greatestCommonDivisor_20 : decode cX2_greatestCommonDivisor 20 = .ok (.lcmp, 1) := by decide +kernel
theorem dX2_greatestCommonDivisor_21 : decode cX2_greatestCommonDivisor 21 = .ok (.ifCond .eq 24, 3) := by decide +kernel
theorem dX2_greatestCommonDivisor_24 : decode cX2_greatestCommonDivisor 24 = .ok (.lload 4, 2) := by decide +kernel
theorem dX2_greatestCommonDivisor_26 : decode cX2_greatestCommonDivisor 26 = .ok (.lload 6, 2) := by decide +kernel
theorem dX2_greatestCommonDivisor_28 : decode cX2_greatestCommonDivisor 28 = .ok (.lrem, 1) := by decide +kernel
theorem dX2_greatestCommonDivisor_29 : decode cX2_greatestCommonDivisor 29 = .ok (.lstore 9, 2) := by decide +kernel
theorem dX2_greatestCommonDivisor_31 : decode cX2_greatestCommonDivisor 31 = .ok (.lload 6, 2) := by decide +kernel
theorem dX2_greatestCommonDivisor_33 : decode cX2_greatestCommonDivisor 33 = .ok (.lstore 4, 2) := by decide +kernel
theorem dX2_greatestCommonDivisor_35 : decode cX2_greatestCommonDivisor 35 = .ok (.lload 9, 2) := by decide +kernel
theorem dX2_greatestCommonDivisor_37 : decode cX2_greatestCommonDivisor 37 = .ok (.lstore 6, 2) := by decide +kernel
theorem dX2_greatestCommonDivisor_39 : decode cX2_greatestCommonDivisor 39 = .ok (.iinc 8 1, 3) := by decide +kernel
theorem dX2_greatestCommonDivisor_42 : decode cX2_greatestCommonDivisor 42 = .ok (.goto (-33), 3) := by decide +kernel
theorem dX2_greatestCommonDivisor_45 : decode cX2_greatestCommonDivisor 45 = .ok (.lload 4, 2) := by decide +kernel
theorem dX2_greatestCommonDivisor_47 : decode cX2_greatestCommonDivisor 47 = .ok (.lreturn, 1) := by decide +kernel
theorem dX2_correctSet_0 : decode cX2_correctSet 0 = .ok (.iconst 0, 1) := by decide +kernel
theorem dX2_correctSet_1 : decode cX2_correctSet 1 = .ok (.istore_n 1, 1) := by decide +kernel
theorem dX2_correctSet_2 : decode cX2_correctSet 2 = .ok (.iconst 0, 1) := by decide +kernel
theorem dX2_correctSet_3 : decode cX2_correctSet 3 = .ok (.istore_n 2, 1) := by decide +kernel
theorem dX2_correctSet_4 : decode cX2_correctSet 4 = .ok (.iload_n 2, 1) := by decide +kernel
theorem dX2_correctSet_5 : decode cX2_correctSet 5 = .ok (.aload_n 0, 1) := by decide +kernel
theorem dX2_correctSet_6 : decode cX2_correctSet 6 = .ok (.getfield 53, 3) := by decide +kernel
theorem dX2_correctSet_9 : decode cX2_correctSet 9 = .ok (.if_icmp .ge 24, 3) := by decide +kernel
theorem dX2_correctSet_12 : decode cX2_correctSet 12 = .ok (.aload_n 0, 1) := by decide +kernel
theorem dX2_correctSet_13 : decode cX2_correctSet 13 = .ok (.getfield 34, 3) := by decide +kernel
theorem dX2_correctSet_16 : decode cX2_correctSet 16 = .ok (.iload_n 2, 1) := by decide +kernel
theorem dX2_correctSet_17 : decode cX2_correctSet 17 = .ok (.iaload, 1) := by decide +kernel
theorem dX2_correctSet_18 : decode cX2_correctSet 18 = .ok (.ifCond .ne 9, 3) := by decide +kernel
theorem dX2_correctSet_21 : decode cX2_correctSet 21 = .ok (.iload_n 1, 1) := by decide +kernel
theorem dX2_correctSet_22 : decode cX2_correctSet 22 = .ok (.iconst 1, 1) := by decide +kernel
theorem dX2_correctSet_23 : decode cX2_correctSet 23 = .ok (.iload_n 2, 1) := by decide +kernel
theorem dX2_correctSet_24 : decode cX2_correctSet 24 = .ok (.ishl, 1) := by decide +kernel
theorem dX2_correctSet_25 : decode cX2_correctSet 25 = .ok (.ior, 1) := by decide +kernel
theorem dX2_correctSet_26 : decode cX2_correctSet 26 = .ok (.istore_n 1, 1) := by decide +kernel
theorem dX2_correctSet_27 : decode cX2_correctSet 27 = .ok (.iinc 2 1, 3) := by decide +kernel
theorem dX2_correctSet_30 : decode cX2_correctSet 30 = .ok (.goto (-26), 3) := by decide +kernel
theorem dX2_correctSet_33 : decode cX2_correctSet 33 = .ok (.iload_n 1, 1) := by decide +kernel
theorem dX2_correctSet_34 : decode cX2_correctSet 34 = .ok (.ireturn, 1) := by decide +kernel
theorem dX2_faultyNodes_0 : decode cX2_faultyNodes 0 = .ok (.aload_n 0, 1) := by decide +kernel
theorem dX2_faultyNodes_1 : decode cX2_faultyNodes 1 = .ok (.getfield 53, 3) := by decide +kernel
theorem dX2_faultyNodes_4 : decode cX2_faultyNodes 4 = .ok (.aload_n 0, 1) := by decide +kernel
theorem dX2_faultyNodes_5 : decode cX2_faultyNodes 5 = .ok (.invokevirtual 149, 3) := by decide +kernel
theorem dX2_faultyNodes_8 : decode cX2_faultyNodes 8 = .ok (.invokestatic 204, 3) := by decide +kernel
theorem dX2_faultyNodes_11 : decode cX2_faultyNodes 11 = .ok (.isub, 1) := by decide +kernel
theorem dX2_faultyNodes_12 : decode cX2_faultyNodes 12 = .ok (.ireturn, 1) := by decide +kernel
theorem dX2_delayOf_0 : decode cX2_delayOf 0 = .ok (.iload_n 1, 1) := by decide +kernel
theorem dX2_delayOf_1 : decode cX2_delayOf 1 = .ok (.bipush 10, 2) := by decide +kernel
theorem dX2_delayOf_3 : decode cX2_delayOf 3 = .ok (.imul, 1) := by decide +kernel
theorem dX2_delayOf_4 : decode cX2_delayOf 4 = .ok (.iload_n 2, 1) := by decide +kernel
theorem dX2_delayOf_5 : decode cX2_delayOf 5 = .ok (.iadd, 1) := by decide +kernel
theorem dX2_delayOf_6 : decode cX2_delayOf 6 = .ok (.istore_n 3, 1) := by decide +kernel
theorem dX2_delayOf_7 : decode cX2_delayOf 7 = .ok (.iload_n 3, 1) := by decide +kernel
theorem dX2_delayOf_8 : decode cX2_delayOf 8 = .ok (.ifCond .lt 21, 3) := by decide +kernel
theorem dX2_delayOf_11 : decode cX2_delayOf 11 = .ok (.iload_n 3, 1) := by decide +kernel
theorem dX2_delayOf_12 : decode cX2_delayOf 12 = .ok (.aload_n 0, 1) := by decide +kernel
theorem dX2_delayOf_13 : decode cX2_delayOf 13 = .ok (.getfield 30, 3) := by decide +kernel
theorem dX2_delayOf_16 : decode cX2_delayOf 16 = .ok (.arraylength, 1) := by decide +kernel
theorem dX2_delayOf_17 : decode cX2_delayOf 17 = .ok (.if_icmp .ge 12, 3) := by decide +kernel
theorem dX2_delayOf_20 : decode cX2_delayOf 20 = .ok (.aload_n 0, 1) := by decide +kernel
theorem dX2_delayOf_21 : decode cX2_delayOf 21 = .ok (.getfield 30, 3) := by decide +kernel
theorem dX2_delayOf_24 : decode cX2_delayOf 24 = .ok (.iload_n 3, 1) := by decide +kernel
theorem dX2_delayOf_25 : decode cX2_delayOf 25 = .ok (.iaload, 1) := by decide +kernel
theorem dX2_delayOf_26 : decode cX2_delayOf 26 = .ok (.goto 4, 3) := by decide +kernel
theorem dX2_delayOf_29 : decode cX2_delayOf 29 = .ok (.iconst (-1), 1) := by decide +kernel
theorem dX2_delayOf_30 : decode cX2_delayOf 30 = .ok (.ireturn, 1) := by decide +kernel
theorem dX2_linksWithDelay_0 : decode cX2_linksWithDelay 0 = .ok (.iconst 0, 1) := by decide +kernel
theorem dX2_linksWithDelay_1 : decode cX2_linksWithDelay 1 = .ok (.istore_n 2, 1) := by decide +kernel
theorem dX2_linksWithDelay_2 : decode cX2_linksWithDelay 2 = .ok (.iconst 0, 1) := by decide +kernel
theorem dX2_linksWithDelay_3 : decode cX2_linksWithDelay 3 = .ok (.istore_n 3, 1) := by decide +kernel
theorem dX2_linksWithDelay_4 : decode cX2_linksWithDelay 4 = .ok (.iload_n 3, 1) := by decide +kernel
theorem dX2_linksWithDelay_5 : decode cX2_linksWithDelay 5 = .ok (.aload_n 0, 1) := by decide +kernel
theorem dX2_linksWithDelay_6 : decode cX2_linksWithDelay 6 = .ok (.getfield 53, 3) := by decide +kernel
theorem dX2_linksWithDelay_9 : decode cX2_linksWithDelay 9 = .ok (.if_icmp .ge 51, 3) := by decide +kernel
theorem dX2_linksWithDelay_12 : decode cX2_linksWithDelay 12 = .ok (.iconst 0, 1) := by decide +kernel
theorem dX2_linksWithDelay_13 : decode cX2_linksWithDelay 13 = .ok (.istore 4, 2) := by decide +kernel
theorem dX2_linksWithDelay_15 : decode cX2_linksWithDelay 15 = .ok (.iload 4, 2) := by decide +kernel
theorem dX2_linksWithDelay_17 : decode cX2_linksWithDelay 17 = .ok (.aload_n 0, 1) := by decide +kernel
theorem dX2_linksWithDelay_18 : decode cX2_linksWithDelay 18 = .ok (.getfield 53, 3) := by decide +kernel
theorem dX2_linksWithDelay_21 : decode cX2_linksWithDelay 21 = .ok (.if_icmp .ge 33, 3) := by decide +kernel
theorem dX2_linksWithDelay_24 : decode cX2_linksWithDelay 24 = .ok (.iload_n 3, 1) := by decide +kernel
theorem dX2_linksWithDelay_25 : decode cX2_linksWithDelay 25 = .ok (.iload 4, 2) := by decide +kernel
theorem dX2_linksWithDelay_27 : decode cX2_linksWithDelay 27 = .ok (.if_icmp .eq 21, 3) := by decide +kernel
theorem dX2_linksWithDelay_30 : decode cX2_linksWithDelay 30 = .ok (.aload_n 0, 1) := by decide +kernel
theorem dX2_linksWithDelay_31 : decode cX2_linksWithDelay 31 = .ok (.iload_n 3, 1) := by decide +kernel
theorem dX2_linksWithDelay_32 : decode cX2_linksWithDelay 32 = .ok (.iload 4, 2) := by decide +kernel
theorem dX2_linksWithDelay_34 : decode cX2_linksWithDelay 34 = .ok (.invokevirtual 94, 3) := by decide +kernel
theorem dX2_linksWithDelay_37 : decode cX2_linksWithDelay 37 = .ok (.iconst 0, 1) := by decide +kernel
theorem dX2_linksWithDelay_38 : decode cX2_linksWithDelay 38 = .ok (.iload_n 1, 1) := by decide +kernel
theorem dX2_linksWithDelay_39 : decode cX2_linksWithDelay 39 = .ok (.invokestatic 49, 3) := by decide +kernel
theorem dX2_linksWithDelay_42 : decode cX2_linksWithDelay 42 = .ok (.ifCond .eq 6, 3) := by decide +kernel
theorem dX2_linksWithDelay_45 : decode cX2_linksWithDelay 45 = .ok (.iinc 2 1, 3) := by decide +kernel
theorem dX2_linksWithDelay_48 : decode cX2_linksWithDelay 48 = .ok (.iinc 4 1, 3) := by decide +kernel
theorem dX2_linksWithDelay_51 : decode cX2_linksWithDelay 51 = .ok (.goto (-36), 3) := by decide +kernel
theorem dX2_linksWithDelay_54 : decode cX2_linksWithDelay 54 = .ok (.iinc 3 1, 3) := by decide +kernel
theorem dX2_linksWithDelay_57 : decode cX2_linksWithDelay 57 = .ok (.goto (-53), 3) := by decide +kernel
theorem dX2_linksWithDelay_60 : decode cX2_linksWithDelay 60 = .ok (.iload_n 2, 1) := by decide +kernel
theorem dX2_linksWithDelay_61 : decode cX2_linksWithDelay 61 = .ok (.ireturn, 1) := by decide +kernel
theorem dX2_haveSameValue_0 : decode cX2_haveSameValue 0 = .ok (.aload_n 0, 1) := by decide +kernel
theorem dX2_haveSameValue_1 : decode cX2_haveSameValue 1 = .ok (.iload_n 1, 1) := by decide +kernel
theorem dX2_haveSameValue_2 : decode cX2_haveSameValue 2 = .ok (.invokevirtual 125, 3) := by decide +kernel
theorem dX2_haveSameValue_5 : decode cX2_haveSameValue 5 = .ok (.ifCond .eq 75, 3) := by decide +kernel
theorem dX2_haveSameValue_8 : decode cX2_haveSameValue 8 = .ok (.aload_n 0, 1) := by decide +kernel
theorem dX2_haveSameValue_9 : decode cX2_haveSameValue 9 = .ok (.iload_n 2, 1) := by decide +kernel
theorem dX2_haveSameValue_10 : decode cX2_haveSameValue 10 = .ok (.invokevirtual 125, 3) := by decide +kernel
theorem dX2_haveSameValue_13 : decode cX2_haveSameValue 13 = .ok (.ifCond .eq 67, 3) := by decide +kernel
theorem dX2_haveSameValue_16 : decode cX2_haveSameValue 16 = .ok (.aload_n 0, 1) := by decide +kernel
theorem dX2_haveSameValue_17 : decode cX2_haveSameValue 17 = .ok (.getfield 23, 3) := by decide +kernel
theorem dX2_haveSameValue_20 : decode cX2_haveSameValue 20 = .ok (.aload_n 0, 1) := by decide +kernel
theorem dX2_haveSameValue_21 : decode cX2_haveSameValue 21 = .ok (.getfield 72, 3) := by decide +kernel
theorem dX2_haveSameValue_24 : decode cX2_haveSameValue 24 = .ok (.iload_n 1, 1) := by decide +kernel
theorem dX2_haveSameValue_25 : decode cX2_haveSameValue 25 = .ok (.iconst 0, 1) := by decide +kernel
theorem dX2_haveSameValue_26 : decode cX2_haveSameValue 26 = .ok (.invokevirtual 130, 3) := by decide +kernel
theorem dX2_haveSameValue_29 : decode cX2_haveSameValue 29 = .ok (.aload_n 0, 1) := by decide +kernel
theorem dX2_haveSameValue_30 : decode cX2_haveSameValue 30 = .ok (.getfield 23, 3) := by decide +kernel
theorem dX2_haveSameValue_33 : decode cX2_haveSameValue 33 = .ok (.aload_n 0, 1) := by decide +kernel
theorem dX2_haveSameValue_34 : decode cX2_haveSameValue 34 = .ok (.getfield 72, 3) := by decide +kernel
theorem dX2_haveSameValue_37 : decode cX2_haveSameValue 37 = .ok (.iload_n 2, 1) := by decide +kernel
theorem dX2_haveSameValue_38 : decode cX2_haveSameValue 38 = .ok (.iconst 0, 1) := by decide +kernel
theorem dX2_haveSameValue_39 : decode cX2_haveSameValue 39 = .ok (.invokevirtual 130, 3) := by decide +kernel
theorem dX2_haveSameValue_42 : decode cX2_haveSameValue 42 = .ok (.lcmp, 1) := by decide +kernel
theorem dX2_haveSameValue_43 : decode cX2_haveSameValue 43 = .ok (.ifCond .ne 37, 3) := by decide +kernel
theorem dX2_haveSameValue_46 : decode cX2_haveSameValue 46 = .ok (.aload_n 0, 1) := by decide +kernel
theorem dX2_haveSameValue_47 : decode cX2_haveSameValue 47 = .ok (.getfield 23, 3) := by decide +kernel
theorem dX2_haveSameValue_50 : decode cX2_haveSameValue 50 = .ok (.aload_n 0, 1) := by decide +kernel
theorem dX2_haveSameValue_51 : decode cX2_haveSameValue 51 = .ok (.getfield 72, 3) := by decide +kernel
theorem dX2_haveSameValue_54 : decode cX2_haveSameValue 54 = .ok (.iload_n 1, 1) := by decide +kernel
theorem dX2_haveSameValue_55 : decode cX2_haveSameValue 55 = .ok (.iconst 1, 1) := by decide +kernel
theorem dX2_haveSameValue_56 : decode cX2_haveSameValue 56 = .ok (.invokevirtual 130, 3) := by decide +kernel
theorem dX2_haveSameValue_59 : decode cX2_haveSameValue 59 = .ok (.aload_n 0, 1) := by decide +kernel
theorem dX2_haveSameValue_60 : decode cX2_haveSameValue 60 = .ok (.getfield 23, 3) := by decide +kernel
theorem dX2_haveSameValue_63 : decode cX2_haveSameValue 63 = .ok (.aload_n 0, 1) := by decide +kernel
theorem dX2_haveSameValue_64 : decode cX2_haveSameValue 64 = .ok (.getfield 72, 3) := by decide +kernel
theorem dX2_haveSameValue_67 : decode cX2_haveSameValue 67 = .ok (.iload_n 2, 1) := by decide +kernel
theorem dX2_haveSameValue_68 : decode cX2_haveSameValue 68 = .ok (.iconst 1, 1) := by decide +kernel
theorem dX2_haveSameValue_69 : decode cX2_haveSameValue 69 = .ok (.invokevirtual 130, 3) := by decide +kernel
theorem dX2_haveSameValue_72 : decode cX2_haveSameValue 72 = .ok (.lcmp, 1) := by decide +kernel
theorem dX2_haveSameValue_73 : decode cX2_haveSameValue 73 = .ok (.ifCond .ne 7, 3) := by decide +kernel
theorem dX2_haveSameValue_76 : decode cX2_haveSameValue 76 = .ok (.iconst 1, 1) := by decide +kernel
theorem dX2_haveSameValue_77 : decode cX2_haveSameValue 77 = .ok (.goto 4, 3) := by decide +kernel
theorem dX2_haveSameValue_80 : decode cX2_haveSameValue 80 = .ok (.iconst 0, 1) := by decide +kernel
theorem dX2_haveSameValue_81 : decode cX2_haveSameValue 81 = .ok (.ireturn, 1) := by decide +kernel
theorem dX2_holdersOfValueOf_0 : decode cX2_holdersOfValueOf 0 = .ok (.iconst 0, 1) := by decide +kernel
theorem dX2_holdersOfValueOf_1 : decode cX2_holdersOfValueOf 1 = .ok (.istore_n 2, 1) := by decide +kernel
theorem dX2_holdersOfValueOf_2 : decode cX2_holdersOfValueOf 2 = .ok (.iconst 0, 1) := by decide +kernel
theorem dX2_holdersOfValueOf_3 : decode cX2_holdersOfValueOf 3 = .ok (.istore_n 3, 1) := by decide +kernel
theorem dX2_holdersOfValueOf_4 : decode cX2_holdersOfValueOf 4 = .ok (.iload_n 3, 1) := by decide +kernel
theorem dX2_holdersOfValueOf_5 : decode cX2_holdersOfValueOf 5 = .ok (.aload_n 0, 1) := by decide +kernel
theorem dX2_holdersOfValueOf_6 : decode cX2_holdersOfValueOf 6 = .ok (.getfield 53, 3) := by decide +kernel
theorem dX2_holdersOfValueOf_9 : decode cX2_holdersOfValueOf 9 = .ok (.if_icmp .ge 21, 3) := by decide +kernel
theorem dX2_holdersOfValueOf_12 : decode cX2_holdersOfValueOf 12 = .ok (.aload_n 0, 1) := by decide +kernel
theorem dX2_holdersOfValueOf_13 : decode cX2_holdersOfValueOf 13 = .ok (.iload_n 1, 1) := by decide +kernel
theorem dX2_holdersOfValueOf_14 : decode cX2_holdersOfValueOf 14 = .ok (.iload_n 3, 1) := by decide +kernel
theorem dX2_holdersOfValueOf_15 : decode cX2_holdersOfValueOf 15 = .ok (.invokevirtual 209, 3) := by decide +kernel
theorem dX2_holdersOfValueOf_18 : decode cX2_holdersOfValueOf 18 = .ok (.ifCond .eq 6, 3) := by decide +kernel
theorem dX2_holdersOfValueOf_21 : decode cX2_holdersOfValueOf 21 = .ok (.iinc 2 1, 3) := by decide +kernel
theorem dX2_holdersOfValueOf_24 : decode cX2_holdersOfValueOf 24 = .ok (.iinc 3 1, 3) := by decide +kernel
theorem dX2_holdersOfValueOf_27 : decode cX2_holdersOfValueOf 27 = .ok (.goto (-23), 3) := by decide +kernel
theorem dX2_holdersOfValueOf_30 : decode cX2_holdersOfValueOf 30 = .ok (.iload_n 2, 1) := by decide +kernel
theorem dX2_holdersOfValueOf_31 : decode cX2_holdersOfValueOf 31 = .ok (.ireturn, 1) := by decide +kernel
theorem dX2_differentValues_0 : decode cX2_differentValues 0 = .ok (.iconst 0, 1) := by decide +kernel
theorem dX2_differentValues_1 : decode cX2_differentValues 1 = .ok (.istore_n 1, 1) := by decide +kernel
theorem dX2_differentValues_2 : decode cX2_differentValues 2 = .ok (.iconst 0, 1) := by decide +kernel
theorem dX2_differentValues_3 : decode cX2_differentValues 3 = .ok (.istore_n 2, 1) := by decide +kernel
theorem dX2_differentValues_4 : decode cX2_differentValues 4 = .ok (.iload_n 2, 1) := by decide +kernel
theorem dX2_differentValues_5 : decode cX2_differentValues 5 = .ok (.aload_n 0, 1) := by decide +kernel
theorem dX2_differentValues_6 : decode cX2_differentValues 6 = .ok (.getfield 53, 3) := by decide +kernel
theorem dX2_differentValues_9 : decode cX2_differentValues 9 = .ok (.if_icmp .ge 28, 3) := by decide +kernel
theorem dX2_differentValues_12 : decode cX2_differentValues 12 = .ok (.aload_n 0, 1) := by decide +kernel
theorem dX2_differentValues_13 : decode cX2_differentValues 13 = .ok (.iload_n 2, 1) := by decide +kernel
theorem dX2_differentValues_14 : decode cX2_differentValues 14 = .ok (.invokevirtual 125, 3) := by decide +kernel
theorem dX2_differentValues_17 : decode cX2_differentValues 17 = .ok (.ifCond .eq 14, 3) := by decide +kernel
theorem dX2_differentValues_20 : decode cX2_differentValues 20 = .ok (.aload_n 0, 1) := by decide +kernel
theorem dX2_differentValues_21 : decode cX2_differentValues 21 = .ok (.iload_n 2, 1) := by decide +kernel
theorem dX2_differentValues_22 : decode cX2_differentValues 22 = .ok (.invokevirtual 212, 3) := by decide +kernel
theorem dX2_differentValues_25 : decode cX2_differentValues 25 = .ok (.ifCond .eq 6, 3) := by decide +kernel
theorem dX2_differentValues_28 : decode cX2_differentValues 28 = .ok (.iinc 1 1, 3) := by decide +kernel
theorem dX2_differentValues_31 : decode cX2_differentValues 31 = .ok (.iinc 2 1, 3) := by decide +kernel
theorem dX2_differentValues_34 : decode cX2_differentValues 34 = .ok (.goto (-30), 3) := by decide +kernel
theorem dX2_differentValues_37 : decode cX2_differentValues 37 = .ok (.iload_n 1, 1) := by decide +kernel
theorem dX2_differentValues_38 : decode cX2_differentValues 38 = .ok (.ireturn, 1) := by decide +kernel
theorem dX2_isFirstHolder_0 : decode cX2_isFirstHolder 0 = .ok (.iconst 0, 1) := by decide +kernel
theorem dX2_isFirstHolder_1 : decode cX2_isFirstHolder 1 = .ok (.istore_n 2, 1) := by decide +kernel
theorem dX2_isFirstHolder_2 : decode cX2_isFirstHolder 2 = .ok (.iload_n 2, 1) := by decide +kernel
theorem dX2_isFirstHolder_3 : decode cX2_isFirstHolder 3 = .ok (.iload_n 1, 1) := by decide +kernel
theorem dX2_isFirstHolder_4 : decode cX2_isFirstHolder 4 = .ok (.if_icmp .ge 20, 3) := by decide +kernel
theorem dX2_isFirstHolder_7 : decode cX2_isFirstHolder 7 = .ok (.aload_n 0, 1) := by decide +kernel
theorem dX2_isFirstHolder_8 : decode cX2_isFirstHolder 8 = .ok (.iload_n 2, 1) := by decide +kernel
theorem dX2_isFirstHolder_9 : decode cX2_isFirstHolder 9 = .ok (.iload_n 1, 1) := by decide +kernel
theorem dX2_isFirstHolder_10 : decode cX2_isFirstHolder 10 = .ok (.invokevirtual 209, 3) := by decide +kernel
theorem dX2_isFirstHolder_13 : decode cX2_isFirstHolder 13 = .ok (.ifCond .eq 5, 3) := by decide +kernel
theorem dX2_isFirstHolder_16 : decode cX2_isFirstHolder 16 = .ok (.iconst 0, 1) := by decide +kernel
theorem dX2_isFirstHolder_17 : decode cX2_isFirstHolder 17 = .ok (.ireturn, 1) := by decide +kernel
theorem dX2_isFirstHolder_18 : decode cX2_isFirstHolder 18 = .ok (.iinc 2 1, 3) := by decide +kernel
theorem dX2_isFirstHolder_21 : decode cX2_isFirstHolder 21 = .ok (.goto (-19), 3) := by decide +kernel
theorem dX2_isFirstHolder_24 : decode cX2_isFirstHolder 24 = .ok (.iconst 1, 1) := by decide +kernel
theorem dX2_isFirstHolder_25 : decode cX2_isFirstHolder 25 = .ok (.ireturn, 1) := by decide +kernel
theorem dX2_widthAfter_0 : decode cX2_widthAfter 0 = .ok (.aload_n 0, 1) := by decide +kernel
theorem dX2_widthAfter_1 : decode cX2_widthAfter 1 = .ok (.invokevirtual 149, 3) := by decide +kernel
theorem dX2_widthAfter_4 : decode cX2_widthAfter 4 = .ok (.istore_n 2, 1) := by decide +kernel
theorem dX2_widthAfter_5 : decode cX2_widthAfter 5 = .ok (.aload_n 0, 1) := by decide +kernel
theorem dX2_widthAfter_6 : decode cX2_widthAfter 6 = .ok (.getfield 23, 3) := by decide +kernel
theorem dX2_widthAfter_9 : decode cX2_widthAfter 9 = .ok (.iload_n 1, 1) := by decide +kernel
theorem dX2_widthAfter_10 : decode cX2_widthAfter 10 = .ok (.iload_n 2, 1) := by decide +kernel
theorem dX2_widthAfter_11 : decode cX2_widthAfter 11 = .ok (.iconst 0, 1) := by decide +kernel
theorem dX2_widthAfter_12 : decode cX2_widthAfter 12 = .ok (.iconst 1, 1) := by decide +kernel
theorem dX2_widthAfter_13 : decode cX2_widthAfter 13 = .ok (.invokevirtual 168, 3) := by decide +kernel
theorem dX2_widthAfter_16 : decode cX2_widthAfter 16 = .ok (.aload_n 0, 1) := by decide +kernel
theorem dX2_widthAfter_17 : decode cX2_widthAfter 17 = .ok (.getfield 23, 3) := by decide +kernel
theorem dX2_widthAfter_20 : decode cX2_widthAfter 20 = .ok (.iload_n 1, 1) := by decide +kernel
theorem dX2_widthAfter_21 : decode cX2_widthAfter 21 = .ok (.iload_n 2, 1) := by decide +kernel
theorem dX2_widthAfter_22 : decode cX2_widthAfter 22 = .ok (.iconst 0, 1) := by decide +kernel
theorem dX2_widthAfter_23 : decode cX2_widthAfter 23 = .ok (.iconst 0, 1) := by decide +kernel
theorem dX2_widthAfter_24 : decode cX2_widthAfter 24 = .ok (.invokevirtual 168, 3) := by decide +kernel
theorem dX2_widthAfter_27 : decode cX2_widthAfter 27 = .ok (.lsub, 1) := by decide +kernel
theorem dX2_widthAfter_28 : decode cX2_widthAfter 28 = .ok (.lstore_n 3, 1) := by decide +kernel
theorem dX2_widthAfter_29 : decode cX2_widthAfter 29 = .ok (.aload_n 0, 1) := by decide +kernel
theorem dX2_widthAfter_30 : decode cX2_widthAfter 30 = .ok (.getfield 23, 3) := by decide +kernel
theorem dX2_widthAfter_33 : decode cX2_widthAfter 33 = .ok (.iload_n 1, 1) := by decide +kernel
theorem dX2_widthAfter_34 : decode cX2_widthAfter 34 = .ok (.iload_n 2, 1) := by decide +kernel
theorem dX2_widthAfter_35 : decode cX2_widthAfter 35 = .ok (.iconst 1, 1) := by decide +kernel
theorem dX2_widthAfter_36 : decode cX2_widthAfter 36 = .ok (.iconst 1, 1) := by decide +kernel
theorem dX2_widthAfter_37 : decode cX2_widthAfter 37 = .ok (.invokevirtual 168, 3) := by decide +kernel
theorem dX2_widthAfter_40 : decode cX2_widthAfter 40 = .ok (.aload_n 0, 1) := by decide +kernel
theorem dX2_widthAfter_41 : decode cX2_widthAfter 41 = .ok (.getfield 23, 3) := by decide +kernel
theorem dX2_widthAfter_44 : decode cX2_widthAfter 44 = .ok (.iload_n 1, 1) := by decide +kernel
theorem dX2_widthAfter_45 : decode cX2_widthAfter 45 = .ok (.iload_n 2, 1) := by decide +kernel
theorem dX2_widthAfter_46 : decode cX2_widthAfter 46 = .ok (.iconst 1, 1) := by decide +kernel
theorem dX2_widthAfter_47 : decode cX2_widthAfter 47 = .ok (.iconst 0, 1) := by decide +kernel
theorem dX2_widthAfter_48 : decode cX2_widthAfter 48 = .ok (.invokevirtual 168, 3) := by decide +kernel
theorem dX2_widthAfter_51 : decode cX2_widthAfter 51 = .ok (.lsub, 1) := by decide +kernel
theorem dX2_widthAfter_52 : decode cX2_widthAfter 52 = .ok (.lstore 5, 2) := by decide +kernel
theorem dX2_widthAfter_54 : decode cX2_widthAfter 54 = .ok (.lload_n 3, 1) := by decide +kernel
theorem dX2_widthAfter_55 : decode cX2_widthAfter 55 = .ok (.lload 5, 2) := by decide +kernel
theorem dX2_widthAfter_57 : decode cX2_widthAfter 57 = .ok (.invokestatic 215, 3) := by decide +kernel
theorem dX2_widthAfter_60 : decode cX2_widthAfter 60 = .ok (.lreturn, 1) := by decide +kernel
theorem dX2_isGuaranteed_0 : decode cX2_isGuaranteed 0 = .ok (.aload_n 0, 1) := by decide +kernel
theorem dX2_isGuaranteed_1 : decode cX2_isGuaranteed 1 = .ok (.iconst 0, 1) := by decide +kernel
theorem dX2_isGuaranteed_2 : decode cX2_isGuaranteed 2 = .ok (.invokevirtual 107, 3) := by decide +kernel
theorem dX2_isGuaranteed_5 : decode cX2_isGuaranteed 5 = .ok (.aload_n 0, 1) := by decide +kernel
theorem dX2_isGuaranteed_6 : decode cX2_isGuaranteed 6 = .ok (.getfield 53, 3) := by decide +kernel
theorem dX2_isGuaranteed_9 : decode cX2_isGuaranteed 9 = .ok (.aload_n 0, 1) := by decide +kernel
theorem dX2_isGuaranteed_10 : decode cX2_isGuaranteed 10 = .ok (.getfield 53, 3) := by decide +kernel
theorem dX2_isGuaranteed_13 : decode cX2_isGuaranteed 13 = .ok (.iconst 1, 1) := by decide +kernel
theorem dX2_isGuaranteed_14 : decode cX2_isGuaranteed 14 = .ok (.isub, 1) := by decide +kernel
theorem dX2_isGuaranteed_15 : decode cX2_isGuaranteed 15 = .ok (.imul, 1) := by decide +kernel
theorem dX2_isGuaranteed_16 : decode cX2_isGuaranteed 16 = .ok (.if_icmp .ne 39, 3) := by decide +kernel
theorem dX2_isGuaranteed_19 : decode cX2_isGuaranteed 19 = .ok (.aload_n 0, 1) := by decide +kernel
theorem dX2_isGuaranteed_20 : decode cX2_isGuaranteed 20 = .ok (.invokevirtual 104, 3) := by decide +kernel
theorem dX2_isGuaranteed_23 : decode cX2_isGuaranteed 23 = .ok (.aload_n 0, 1) := by decide +kernel
theorem dX2_isGuaranteed_24 : decode cX2_isGuaranteed 24 = .ok (.getfield 101, 3) := by decide +kernel
theorem dX2_isGuaranteed_27 : decode cX2_isGuaranteed 27 = .ok (.if_icmp .gt 28, 3) := by decide +kernel
theorem dX2_isGuaranteed_30 : decode cX2_isGuaranteed 30 = .ok (.aload_n 0, 1) := by decide +kernel
theorem dX2_isGuaranteed_31 : decode cX2_isGuaranteed 31 = .ok (.getfield 53, 3) := by decide +kernel
theorem dX2_isGuaranteed_34 : decode cX2_isGuaranteed 34 = .ok (.iconst 3, 1) := by decide +kernel
theorem dX2_isGuaranteed_35 : decode cX2_isGuaranteed 35 = .ok (.aload_n 0, 1) := by decide +kernel
theorem dX2_isGuaranteed_36 : decode cX2_isGuaranteed 36 = .ok (.getfield 101, 3) := by decide +kernel
theorem dX2_isGuaranteed_39 : decode cX2_isGuaranteed 39 = .ok (.imul, 1) := by decide +kernel
theorem dX2_isGuaranteed_40 : decode cX2_isGuaranteed 40 = .ok (.if_icmp .le 15, 3) := by decide +kernel
theorem dX2_isGuaranteed_43 : decode cX2_isGuaranteed 43 = .ok (.aload_n 0, 1) := by decide +kernel
theorem dX2_isGuaranteed_44 : decode cX2_isGuaranteed 44 = .ok (.getfield 98, 3) := by decide +kernel
theorem dX2_isGuaranteed_47 : decode cX2_isGuaranteed 47 = .ok (.iconst 2, 1) := by decide +kernel
theorem dX2_isGuaranteed_48 : decode cX2_isGuaranteed 48 = .ok (.if_icmp .eq 7, 3) := by decide +kernel
theorem dX2_isGuaranteed_51 : decode cX2_isGuaranteed 51 = .ok (.iconst 1, 1) := by decide +kernel
theorem dX2_isGuaranteed_52 : decode cX2_isGuaranteed 52 = .ok (.goto 4, 3) := by decide +kernel
theorem dX2_isGuaranteed_55 : decode cX2_isGuaranteed 55 = .ok (.iconst 0, 1) := by decide +kernel
theorem dX2_isGuaranteed_56 : decode cX2_isGuaranteed 56 = .ok (.ireturn, 1) := by decide +kernel
theorem dX2_sentEnd_0 : decode cX2_sentEnd 0 = .ok (.aload_n 0, 1) := by decide +kernel
theorem dX2_sentEnd_1 : decode cX2_sentEnd 1 = .ok (.iload_n 1, 1) := by decide +kernel
theorem dX2_sentEnd_2 : decode cX2_sentEnd 2 = .ok (.invokevirtual 68, 3) := by decide +kernel
theorem dX2_sentEnd_5 : decode cX2_sentEnd 5 = .ok (.ifCond .ne 5, 3) := by decide +kernel
theorem dX2_sentEnd_8 : decode cX2_sentEnd 8 = .ok (.lconst 0, 1) := by decide +kernel
theorem dX2_sentEnd_9 : decode cX2_sentEnd 9 = .ok (.lreturn, 1) := by decide +kernel
theorem dX2_sentEnd_10 : decode cX2_sentEnd 10 = .ok (.aload_n 0, 1) := by decide +kernel
theorem dX2_sentEnd_11 : decode cX2_sentEnd 11 = .ok (.getfield 34, 3) := by decide +kernel
theorem dX2_sentEnd_14 : decode cX2_sentEnd 14 = .ok (.iload_n 1, 1) := by decide +kernel
theorem dX2_sentEnd_15 : decode cX2_sentEnd 15 = .ok (.iaload, 1) := by decide +kernel
theorem dX2_sentEnd_16 : decode cX2_sentEnd 16 = .ok (.tableswitch 184 1 5 #[36, 51, 113, 138, 156], 36) := by decide +kernel
theorem dX2_sentEnd_52 : decode cX2_sentEnd 52 = .ok (.aload_n 0, 1) := by decide +kernel
theorem dX2_sentEnd_53 : decode cX2_sentEnd 53 = .ok (.getfield 27, 3) := by decide +kernel
theorem dX2_sentEnd_56 : decode cX2_sentEnd 56 = .ok (.iload_n 1, 1) := by decide +kernel
theorem dX2_sentEnd_57 : decode cX2_sentEnd 57 = .ok (.iload_n 2, 1) := by decide +kernel
theorem dX2_sentEnd_58 : decode cX2_sentEnd 58 = .ok (.iload_n 3, 1) := by decide +kernel
theorem dX2_sentEnd_59 : decode cX2_sentEnd 59 = .ok (.invokevirtual 130, 3) := by decide +kernel
theorem dX2_sentEnd_62 : decode cX2_sentEnd 62 = .ok (.lstore 4, 2) := by decide +kernel
theorem dX2_sentEnd_64 : decode cX2_sentEnd 64 = .ok (.goto 161, 3) := by decide +kernel
theorem dX2_sentEnd_67 : decode cX2_sentEnd 67 = .ok (.iload_n 2, 1) := by decide +kernel
theorem dX2_sentEnd_68 : decode cX2_sentEnd 68 = .ok (.iconst 2, 1) := by decide +kernel
theorem dX2_sentEnd_69 : decode cX2_sentEnd 69 = .ok (.irem, 1) := by decide +kernel
theorem dX2_sentEnd_70 : decode cX2_sentEnd 70 = .ok (.ifCond .ne 30, 3) := by decide +kernel
theorem dX2_sentEnd_73 : decode cX2_sentEnd 73 = .ok (.aload_n 0, 1) := by decide +kernel
theorem dX2_sentEnd_74 : decode cX2_sentEnd 74 = .ok (.getfield 23, 3) := by decide +kernel
theorem dX2_sentEnd_77 : decode cX2_sentEnd 77 = .ok (.aload_n 0, 1) := by decide +kernel
theorem dX2_sentEnd_78 : decode cX2_sentEnd 78 = .ok (.getfield 72, 3) := by decide +kernel
theorem dX2_sentEnd_81 : decode cX2_sentEnd 81 = .ok (.aload_n 0, 1) := by decide +kernel
theorem dX2_sentEnd_82 : decode cX2_sentEnd 82 = .ok (.invokevirtual 149, 3) := by decide +kernel
theorem dX2_sentEnd_85 : decode cX2_sentEnd 85 = .ok (.iconst 0, 1) := by decide +kernel
theorem dX2_sentEnd_86 : decode cX2_sentEnd 86 = .ok (.iconst 0, 1) := by decide +kernel
theorem dX2_sentEnd_87 : decode cX2_sentEnd 87 = .ok (.invokevirtual 168, 3) := by decide +kernel
theorem dX2_sentEnd_90 : decode cX2_sentEnd 90 = .ok (.aload_n 0, 1) := by decide +kernel
theorem dX2_sentEnd_91 : decode cX2_sentEnd 91 = .ok (.getfield 37, 3) := by decide +kernel
theorem dX2_sentEnd_94 : decode cX2_sentEnd 94 = .ok (.iload_n 1, 1) := by decide +kernel
theorem dX2_sentEnd_95 : decode cX2_sentEnd 95 = .ok (.laload, 1) := by decide +kernel
theorem dX2_sentEnd_96 : decode cX2_sentEnd 96 = .ok (.lsub, 1) := by decide +kernel
theorem dX2_sentEnd_97 : decode cX2_sentEnd 97 = .ok (.goto 27, 3) := by decide +kernel
theorem dX2_sentEnd_100 : decode cX2_sentEnd 100 = .ok (.aload_n 0, 1) := by decide +kernel
theorem dX2_sentEnd_101 : decode cX2_sentEnd 101 = .ok (.getfield 23, 3) := by decide +kernel
theorem dX2_sentEnd_104 : decode cX2_sentEnd 104 = .ok (.aload_n 0, 1) := by decide +kernel
theorem dX2_sentEnd_105 : decode cX2_sentEnd 105 = .ok (.getfield 72, 3) := by decide +kernel
theorem dX2_sentEnd_108 : decode cX2_sentEnd 108 = .ok (.aload_n 0, 1) := by decide +kernel
theorem dX2_sentEnd_109 : decode cX2_sentEnd 109 = .ok (.invokevirtual 149, 3) := by decide +kernel
theorem dX2_sentEnd_112 : decode cX2_sentEnd 112 = .ok (.iconst 1, 1) := by decide +kernel
theorem dX2_sentEnd_113 : decode cX2_sentEnd 113 = .ok (.iconst 1, 1) := by decide +kernel
theorem dX2_sentEnd_114 : decode cX2_sentEnd 114 = .ok (.invokevirtual 168, 3) := by decide +kernel
theorem dX2_sentEnd_117 : decode cX2_sentEnd 117 = .ok (.aload_n 0, 1) := by decide +kernel
theorem dX2_sentEnd_118 : decode cX2_sentEnd 118 = .ok (.getfield 37, 3) := by decide +kernel
theorem dX2_sentEnd_121 : decode cX2_sentEnd 121 = .ok (.iload_n 1, 1) := by decide +kernel
theorem dX2_sentEnd_122 : decode cX2_sentEnd 122 = .ok (.laload, 1) := by decide +kernel
theorem dX2_sentEnd_123 : decode cX2_sentEnd 123 = .ok (.ladd, 1) := by decide +kernel
theorem dX2_sentEnd_124 : decode cX2_sentEnd 124 = .ok (.lstore 4, 2) := by decide +kernel
theorem dX2_sentEnd_126 : decode cX2_sentEnd 126 = .ok (.goto 99, 3) := by decide +kernel
theorem dX2_sentEnd_129 : decode cX2_sentEnd 129 = .ok (.aload_n 0, 1) := by decide +kernel
theorem dX2_sentEnd_130 : decode cX2_sentEnd 130 = .ok (.getfield 23, 3) := by decide +kernel
theorem dX2_sentEnd_133 : decode cX2_sentEnd 133 = .ok (.aload_n 0, 1) := by decide +kernel
theorem dX2_sentEnd_134 : decode cX2_sentEnd 134 = .ok (.getfield 72, 3) := by decide +kernel
theorem dX2_sentEnd_137 : decode cX2_sentEnd 137 = .ok (.iload_n 2, 1) := by decide +kernel
theorem dX2_sentEnd_138 : decode cX2_sentEnd 138 = .ok (.iload_n 3, 1) := by decide +kernel
theorem dX2_sentEnd_139 : decode cX2_sentEnd 139 = .ok (.invokevirtual 130, 3) := by decide +kernel
theorem dX2_sentEnd_142 : decode cX2_sentEnd 142 = .ok (.aload_n 0, 1) := by decide +kernel
theorem dX2_sentEnd_143 : decode cX2_sentEnd 143 = .ok (.getfield 37, 3) := by decide +kernel
theorem dX2_sentEnd_146 : decode cX2_sentEnd 146 = .ok (.iload_n 1, 1) := by decide +kernel
theorem dX2_sentEnd_147 : decode cX2_sentEnd 147 = .ok (.laload, 1) := by decide +kernel
theorem dX2_sentEnd_148 : decode cX2_sentEnd 148 = .ok (.ladd, 1) := by decide +kernel
theorem dX2_sentEnd_149 : decode cX2_sentEnd 149 = .ok (.lstore 4, 2) := by decide +kernel
theorem dX2_sentEnd_151 : decode cX2_sentEnd 151 = .ok (.goto 74, 3) := by decide +kernel
theorem dX2_sentEnd_154 : decode cX2_sentEnd 154 = .ok (.aload_n 0, 1) := by decide +kernel
theorem dX2_sentEnd_155 : decode cX2_sentEnd 155 = .ok (.getfield 23, 3) := by decide +kernel
theorem dX2_sentEnd_158 : decode cX2_sentEnd 158 = .ok (.aload_n 0, 1) := by decide +kernel
theorem dX2_sentEnd_159 : decode cX2_sentEnd 159 = .ok (.getfield 72, 3) := by decide +kernel
theorem dX2_sentEnd_162 : decode cX2_sentEnd 162 = .ok (.iload_n 2, 1) := by decide +kernel
theorem dX2_sentEnd_163 : decode cX2_sentEnd 163 = .ok (.iload_n 3, 1) := by decide +kernel
theorem dX2_sentEnd_164 : decode cX2_sentEnd 164 = .ok (.invokevirtual 130, 3) := by decide +kernel
theorem dX2_sentEnd_167 : decode cX2_sentEnd 167 = .ok (.lstore 4, 2) := by decide +kernel
theorem dX2_sentEnd_169 : decode cX2_sentEnd 169 = .ok (.goto 56, 3) := by decide +kernel
theorem dX2_sentEnd_172 : decode cX2_sentEnd 172 = .ok (.aload_n 0, 1) := by decide +kernel
theorem dX2_sentEnd_173 : decode cX2_sentEnd 173 = .ok (.getfield 23, 3) := by decide +kernel
theorem dX2_sentEnd_176 : decode cX2_sentEnd 176 = .ok (.iconst 0, 1) := by decide +kernel
theorem dX2_sentEnd_177 : decode cX2_sentEnd 177 = .ok (.iload_n 1, 1) := by decide +kernel
theorem dX2_sentEnd_178 : decode cX2_sentEnd 178 = .ok (.iload_n 3, 1) := by decide +kernel
theorem dX2_sentEnd_179 : decode cX2_sentEnd 179 = .ok (.invokevirtual 130, 3) := by decide +kernel
theorem dX2_sentEnd_182 : decode cX2_sentEnd 182 = .ok (.aload_n 0, 1) := by decide +kernel
theorem dX2_sentEnd_183 : decode cX2_sentEnd 183 = .ok (.getfield 72, 3) := by decide +kernel
theorem dX2_sentEnd_186 : decode cX2_sentEnd 186 = .ok (.i2l, 1) := by decide +kernel
theorem dX2_sentEnd_187 : decode cX2_sentEnd 187 = .ok (.aload_n 0, 1) := by decide +kernel
theorem dX2_sentEnd_188 : decode cX2_sentEnd 188 = .ok (.getfield 37, 3) := by decide +kernel
theorem dX2_sentEnd_191 : decode cX2_sentEnd 191 = .ok (.iload_n 1, 1) := by decide +kernel
