theorem dX2_sentEnd_192 : decode cX2_sentEnd 192 = .ok (.laload, 1) := by decide +kernel
theorem dX2_sentEnd_193 : decode cX2_sentEnd 193 = .ok (.lmul, 1) := by decide +kernel
theorem dX2_sentEnd_194 : decode cX2_sentEnd 194 = .ok (.ladd, 1) := by decide +kernel
theorem dX2_sentEnd_195 : decode cX2_sentEnd 195 = .ok (.lstore 4, 2) := by decide +kernel
theorem dX2_sentEnd_197 : decode cX2_sentEnd 197 = .ok (.goto 28, 3) := by decide +kernel
theorem dX2_sentEnd_200 : decode cX2_sentEnd 200 = .ok (.aload_n 0, 1) := by decide +kernel
theorem dX2_sentEnd_201 : decode cX2_sentEnd 201 = .ok (.getfield 23, 3) := by decide +kernel
theorem dX2_sentEnd_204 : decode cX2_sentEnd 204 = .ok (.iconst 0, 1) := by decide +kernel
theorem dX2_sentEnd_205 : decode cX2_sentEnd 205 = .ok (.aload_n 0, 1) := by decide +kernel
theorem dX2_sentEnd_206 : decode cX2_sentEnd 206 = .ok (.getfield 72, 3) := by decide +kernel
theorem dX2_sentEnd_209 : decode cX2_sentEnd 209 = .ok (.aload_n 0, 1) := by decide +kernel
theorem dX2_sentEnd_210 : decode cX2_sentEnd 210 = .ok (.iload_n 1, 1) := by decide +kernel
theorem dX2_sentEnd_211 : decode cX2_sentEnd 211 = .ok (.iload_n 2, 1) := by decide +kernel
theorem dX2_sentEnd_212 : decode cX2_sentEnd 212 = .ok (.invokevirtual 94, 3) := by decide +kernel
theorem dX2_sentEnd_215 : decode cX2_sentEnd 215 = .ok (.isub, 1) := by decide +kernel
theorem dX2_sentEnd_216 : decode cX2_sentEnd 216 = .ok (.invokestatic 218, 3) := by decide +kernel
theorem dX2_sentEnd_219 : decode cX2_sentEnd 219 = .ok (.iload_n 1, 1) := by decide +kernel
theorem dX2_sentEnd_220 : decode cX2_sentEnd 220 = .ok (.iload_n 3, 1) := by decide +kernel
theorem dX2_sentEnd_221 : decode cX2_sentEnd 221 = .ok (.invokevirtual 130, 3) := by decide +kernel
theorem dX2_sentEnd_224 : decode cX2_sentEnd 224 = .ok (.lreturn, 1) := by decide +kernel
theorem dX2_sentEnd_225 : decode cX2_sentEnd 225 = .ok (.ldc2_w 220, 3) := by decide +kernel
theorem dX2_sentEnd_228 : decode cX2_sentEnd 228 = .ok (.aload_n 0, 1) := by decide +kernel
theorem dX2_sentEnd_229 : decode cX2_sentEnd 229 = .ok (.getfield 83, 3) := by decide +kernel
theorem dX2_sentEnd_232 : decode cX2_sentEnd 232 = .ok (.i2l, 1) := by decide +kernel
theorem dX2_sentEnd_233 : decode cX2_sentEnd 233 = .ok (.lmul, 1) := by decide +kernel
theorem dX2_sentEnd_234 : decode cX2_sentEnd 234 = .ok (.lstore 6, 2) := by decide +kernel
theorem dX2_sentEnd_236 : decode cX2_sentEnd 236 = .ok (.lload 6, 2) := by decide +kernel
theorem dX2_sentEnd_238 : decode cX2_sentEnd 238 = .ok (.lneg, 1) := by decide +kernel
theorem dX2_sentEnd_239 : decode cX2_sentEnd 239 = .ok (.lload 6, 2) := by decide +kernel
theorem dX2_sentEnd_241 : decode cX2_sentEnd 241 = .ok (.lload 4, 2) := by decide +kernel
theorem dX2_sentEnd_243 : decode cX2_sentEnd 243 = .ok (.invokestatic 222, 3) := by decide +kernel
theorem dX2_sentEnd_246 : decode cX2_sentEnd 246 = .ok (.invokestatic 215, 3) := by decide +kernel
theorem dX2_sentEnd_249 : decode cX2_sentEnd 249 = .ok (.lreturn, 1) := by decide +kernel
theorem dX2_collectRest_0 : decode cX2_collectRest 0 = .ok (.iconst 0, 1) := by decide +kernel
theorem dX2_collectRest_1 : decode cX2_collectRest 1 = .ok (.istore_n 3, 1) := by decide +kernel
theorem dX2_collectRest_2 : decode cX2_collectRest 2 = .ok (.iconst 0, 1) := by decide +kernel
theorem dX2_collectRest_3 : decode cX2_collectRest 3 = .ok (.istore 4, 2) := by decide +kernel
theorem dX2_collectRest_5 : decode cX2_collectRest 5 = .ok (.iload 4, 2) := by decide +kernel
theorem dX2_collectRest_7 : decode cX2_collectRest 7 = .ok (.aload_n 0, 1) := by decide +kernel
theorem dX2_collectRest_8 : decode cX2_collectRest 8 = .ok (.getfield 53, 3) := by decide +kernel
theorem dX2_collectRest_11 : decode cX2_collectRest 11 = .ok (.if_icmp .ge 36, 3) := by decide +kernel
theorem dX2_collectRest_14 : decode cX2_collectRest 14 = .ok (.aload_n 0, 1) := by decide +kernel
theorem dX2_collectRest_15 : decode cX2_collectRest 15 = .ok (.iload 4, 2) := by decide +kernel
theorem dX2_collectRest_17 : decode cX2_collectRest 17 = .ok (.iload_n 1, 1) := by decide +kernel
theorem dX2_collectRest_18 : decode cX2_collectRest 18 = .ok (.invokevirtual 94, 3) := by decide +kernel
theorem dX2_collectRest_21 : decode cX2_collectRest 21 = .ok (.iconst (-1), 1) := by decide +kernel
theorem dX2_collectRest_22 : decode cX2_collectRest 22 = .ok (.if_icmp .eq 19, 3) := by decide +kernel
theorem dX2_collectRest_25 : decode cX2_collectRest 25 = .ok (.aload_n 0, 1) := by decide +kernel
theorem dX2_collectRest_26 : decode cX2_collectRest 26 = .ok (.aload_n 0, 1) := by decide +kernel
theorem dX2_collectRest_27 : decode cX2_collectRest 27 = .ok (.iload 4, 2) := by decide +kernel
theorem dX2_collectRest_29 : decode cX2_collectRest 29 = .ok (.iload_n 1, 1) := by decide +kernel
theorem dX2_collectRest_30 : decode cX2_collectRest 30 = .ok (.iload_n 2, 1) := by decide +kernel
theorem dX2_collectRest_31 : decode cX2_collectRest 31 = .ok (.invokevirtual 138, 3) := by decide +kernel
theorem dX2_collectRest_34 : decode cX2_collectRest 34 = .ok (.iload_n 3, 1) := by decide +kernel
theorem dX2_collectRest_35 : decode cX2_collectRest 35 = .ok (.invokevirtual 225, 3) := by decide +kernel
theorem dX2_collectRest_38 : decode cX2_collectRest 38 = .ok (.iinc 3 1, 3) := by decide +kernel
theorem dX2_collectRest_41 : decode cX2_collectRest 41 = .ok (.iinc 4 1, 3) := by decide +kernel
theorem dX2_collectRest_44 : decode cX2_collectRest 44 = .ok (.goto (-39), 3) := by decide +kernel
theorem dX2_collectRest_47 : decode cX2_collectRest 47 = .ok (.iconst 0, 1) := by decide +kernel
theorem dX2_collectRest_48 : decode cX2_collectRest 48 = .ok (.iload_n 3, 1) := by decide +kernel
theorem dX2_collectRest_49 : decode cX2_collectRest 49 = .ok (.iconst 2, 1) := by decide +kernel
theorem dX2_collectRest_50 : decode cX2_collectRest 50 = .ok (.aload_n 0, 1) := by decide +kernel
theorem dX2_collectRest_51 : decode cX2_collectRest 51 = .ok (.getfield 101, 3) := by decide +kernel
theorem dX2_collectRest_54 : decode cX2_collectRest 54 = .ok (.imul, 1) := by decide +kernel
theorem dX2_collectRest_55 : decode cX2_collectRest 55 = .ok (.isub, 1) := by decide +kernel
theorem dX2_collectRest_56 : decode cX2_collectRest 56 = .ok (.invokestatic 218, 3) := by decide +kernel
theorem dX2_collectRest_59 : decode cX2_collectRest 59 = .ok (.ireturn, 1) := by decide +kernel
theorem dX2_insertAscending_0 : decode cX2_insertAscending 0 = .ok (.iload_n 3, 1) := by decide +kernel
theorem dX2_insertAscending_1 : decode cX2_insertAscending 1 = .ok (.istore 4, 2) := by decide +kernel
theorem dX2_insertAscending_3 : decode cX2_insertAscending 3 = .ok (.iload 4, 2) := by decide +kernel
theorem dX2_insertAscending_5 : decode cX2_insertAscending 5 = .ok (.ifCond .lt 13, 3) := by decide +kernel
theorem dX2_insertAscending_8 : decode cX2_insertAscending 8 = .ok (.iload 4, 2) := by decide +kernel
theorem dX2_insertAscending_10 : decode cX2_insertAscending 10 = .ok (.aload_n 0, 1) := by decide +kernel
theorem dX2_insertAscending_11 : decode cX2_insertAscending 11 = .ok (.getfield 41, 3) := by decide +kernel
theorem dX2_insertAscending_14 : decode cX2_insertAscending 14 = .ok (.arraylength, 1) := by decide +kernel
theorem dX2_insertAscending_15 : decode cX2_insertAscending 15 = .ok (.if_icmp .lt 4, 3) := by decide +kernel
theorem dX2_insertAscending_18 : decode cX2_insertAscending 18 = .ok (.return_, 1) := by decide +kernel
theorem dX2_insertAscending_19 : decode cX2_insertAscending 19 = .ok (.iload 4, 2) := by decide +kernel
theorem dX2_insertAscending_21 : decode cX2_insertAscending 21 = .ok (.ifCond .le 39, 3) := by decide +kernel
theorem dX2_insertAscending_24 : decode cX2_insertAscending 24 = .ok (.aload_n 0, 1) := by decide +kernel
theorem dX2_insertAscending_25 : decode cX2_insertAscending 25 = .ok (.getfield 41, 3) := by decide +kernel
theorem dX2_insertAscending_28 : decode cX2_insertAscending 28 = .ok (.iload 4, 2) := by decide +kernel
theorem dX2_insertAscending_30 : decode cX2_insertAscending 30 = .ok (.iconst 1, 1) := by decide +kernel
theorem dX2_insertAscending_31 : decode cX2_insertAscending 31 = .ok (.isub, 1) := by decide +kernel
theorem dX2_insertAscending_32 : decode cX2_insertAscending 32 = .ok (.laload, 1) := by decide +kernel
theorem dX2_insertAscending_33 : decode cX2_insertAscending 33 = .ok (.lload_n 1, 1) := by decide +kernel
theorem dX2_insertAscending_34 : decode cX2_insertAscending 34 = .ok (.lcmp, 1) := by decide +kernel
theorem dX2_insertAscending_35 : decode cX2_insertAscending 35 = .ok (.ifCond .le 25, 3) := by decide +kernel
theorem dX2_insertAscending_38 : decode cX2_insertAscending 38 = .ok (.aload_n 0, 1) := by decide +kernel
theorem dX2_insertAscending_39 : decode cX2_insertAscending 39 = .ok (.getfield 41, 3) := by decide +kernel
theorem dX2_insertAscending_42 : decode cX2_insertAscending 42 = .ok (.iload 4, 2) := by decide +kernel
theorem dX2_insertAscending_44 : decode cX2_insertAscending 44 = .ok (.aload_n 0, 1) := by decide +kernel
theorem dX2_insertAscending_45 : decode cX2_insertAscending 45 = .ok (.getfield 41, 3) := by decide +kernel
theorem dX2_insertAscending_48 : decode cX2_insertAscending 48 = .ok (.iload 4, 2) := by decide +kernel
theorem dX2_insertAscending_50 : decode cX2_insertAscending 50 = .ok (.iconst 1, 1) := by decide +kernel
theorem dX2_insertAscending_51 : decode cX2_insertAscending 51 = .ok (.isub, 1) := by decide +kernel
theorem dX2_insertAscending_52 : decode cX2_insertAscending 52 = .ok (.laload, 1) := by decide +kernel
theorem dX2_insertAscending_53 : decode cX2_insertAscending 53 = .ok (.lastore, 1) := by decide +kernel
theorem dX2_insertAscending_54 : decode cX2_insertAscending 54 = .ok (.iinc 4 (-1), 3) := by decide +kernel
theorem dX2_insertAscending_57 : decode cX2_insertAscending 57 = .ok (.goto (-38), 3) := by decide +kernel
theorem dX2_insertAscending_60 : decode cX2_insertAscending 60 = .ok (.aload_n 0, 1) := by decide +kernel
theorem dX2_insertAscending_61 : decode cX2_insertAscending 61 = .ok (.getfield 41, 3) := by decide +kernel
theorem dX2_insertAscending_64 : decode cX2_insertAscending 64 = .ok (.iload 4, 2) := by decide +kernel
theorem dX2_insertAscending_66 : decode cX2_insertAscending 66 = .ok (.lload_n 1, 1) := by decide +kernel
theorem dX2_insertAscending_67 : decode cX2_insertAscending 67 = .ok (.lastore, 1) := by decide +kernel
theorem dX2_insertAscending_68 : decode cX2_insertAscending 68 = .ok (.return_, 1) := by decide +kernel
theorem dX2_restAt_0 : decode cX2_restAt 0 = .ok (.aload_n 0, 1) := by decide +kernel
theorem dX2_restAt_1 : decode cX2_restAt 1 = .ok (.getfield 101, 3) := by decide +kernel
theorem dX2_restAt_4 : decode cX2_restAt 4 = .ok (.iload_n 1, 1) := by decide +kernel
theorem dX2_restAt_5 : decode cX2_restAt 5 = .ok (.iadd, 1) := by decide +kernel
theorem dX2_restAt_6 : decode cX2_restAt 6 = .ok (.istore_n 2, 1) := by decide +kernel
theorem dX2_restAt_7 : decode cX2_restAt 7 = .ok (.iload_n 2, 1) := by decide +kernel
theorem dX2_restAt_8 : decode cX2_restAt 8 = .ok (.ifCond .lt 21, 3) := by decide +kernel
theorem dX2_restAt_11 : decode cX2_restAt 11 = .ok (.iload_n 2, 1) := by decide +kernel
theorem dX2_restAt_12 : decode cX2_restAt 12 = .ok (.aload_n 0, 1) := by decide +kernel
theorem dX2_restAt_13 : decode cX2_restAt 13 = .ok (.getfield 41, 3) := by decide +kernel
theorem dX2_restAt_16 : decode cX2_restAt 16 = .ok (.arraylength, 1) := by decide +kernel
theorem dX2_restAt_17 : decode cX2_restAt 17 = .ok (.if_icmp .ge 12, 3) := by decide +kernel
theorem dX2_restAt_20 : decode cX2_restAt 20 = .ok (.aload_n 0, 1) := by decide +kernel
theorem dX2_restAt_21 : decode cX2_restAt 21 = .ok (.getfield 41, 3) := by decide +kernel
theorem dX2_restAt_24 : decode cX2_restAt 24 = .ok (.iload_n 2, 1) := by decide +kernel
theorem dX2_restAt_25 : decode cX2_restAt 25 = .ok (.laload, 1) := by decide +kernel
theorem dX2_restAt_26 : decode cX2_restAt 26 = .ok (.goto 4, 3) := by decide +kernel
theorem dX2_restAt_29 : decode cX2_restAt 29 = .ok (.lconst 0, 1) := by decide +kernel
theorem dX2_restAt_30 : decode cX2_restAt 30 = .ok (.lreturn, 1) := by decide +kernel
theorem dX2_combined_0 : decode cX2_combined 0 = .ok (.aload_n 0, 1) := by decide +kernel
theorem dX2_combined_1 : decode cX2_combined 1 = .ok (.getfield 98, 3) := by decide +kernel
theorem dX2_combined_4 : decode cX2_combined 4 = .ok (.tableswitch 86 1 3 #[28, 48, 72], 28) := by decide +kernel
theorem dX2_combined_32 : decode cX2_combined 32 = .ok (.aload_n 0, 1) := by decide +kernel
theorem dX2_combined_33 : decode cX2_combined 33 = .ok (.iconst 0, 1) := by decide +kernel
theorem dX2_combined_34 : decode cX2_combined 34 = .ok (.invokevirtual 145, 3) := by decide +kernel
theorem dX2_combined_37 : decode cX2_combined 37 = .ok (.aload_n 0, 1) := by decide +kernel
theorem dX2_combined_38 : decode cX2_combined 38 = .ok (.iload_n 1, 1) := by decide +kernel
theorem dX2_combined_39 : decode cX2_combined 39 = .ok (.iconst 1, 1) := by decide +kernel
theorem dX2_combined_40 : decode cX2_combined 40 = .ok (.isub, 1) := by decide +kernel
theorem dX2_combined_41 : decode cX2_combined 41 = .ok (.invokevirtual 145, 3) := by decide +kernel
theorem dX2_combined_44 : decode cX2_combined 44 = .ok (.ladd, 1) := by decide +kernel
theorem dX2_combined_45 : decode cX2_combined 45 = .ok (.ldc2_w 166, 3) := by decide +kernel
theorem dX2_combined_48 : decode cX2_combined 48 = .ok (.invokestatic 229, 3) := by decide +kernel
theorem dX2_combined_51 : decode cX2_combined 51 = .ok (.lreturn, 1) := by decide +kernel
theorem dX2_combined_52 : decode cX2_combined 52 = .ok (.aload_n 0, 1) := by decide +kernel
theorem dX2_combined_53 : decode cX2_combined 53 = .ok (.iload_n 1, 1) := by decide +kernel
theorem dX2_combined_54 : decode cX2_combined 54 = .ok (.iconst 1, 1) := by decide +kernel
theorem dX2_combined_55 : decode cX2_combined 55 = .ok (.isub, 1) := by decide +kernel
theorem dX2_combined_56 : decode cX2_combined 56 = .ok (.iconst 2, 1) := by decide +kernel
theorem dX2_combined_57 : decode cX2_combined 57 = .ok (.idiv, 1) := by decide +kernel
theorem dX2_combined_58 : decode cX2_combined 58 = .ok (.invokevirtual 145, 3) := by decide +kernel
theorem dX2_combined_61 : decode cX2_combined 61 = .ok (.aload_n 0, 1) := by decide +kernel
theorem dX2_combined_62 : decode cX2_combined 62 = .ok (.iload_n 1, 1) := by decide +kernel
theorem dX2_combined_63 : decode cX2_combined 63 = .ok (.iconst 2, 1) := by decide +kernel
theorem dX2_combined_64 : decode cX2_combined 64 = .ok (.idiv, 1) := by decide +kernel
theorem dX2_combined_65 : decode cX2_combined 65 = .ok (.invokevirtual 145, 3) := by decide +kernel
theorem dX2_combined_68 : decode cX2_combined 68 = .ok (.ladd, 1) := by decide +kernel
theorem dX2_combined_69 : decode cX2_combined 69 = .ok (.ldc2_w 166, 3) := by decide +kernel
theorem dX2_combined_72 : decode cX2_combined 72 = .ok (.invokestatic 229, 3) := by decide +kernel
theorem dX2_combined_75 : decode cX2_combined 75 = .ok (.lreturn, 1) := by decide +kernel
theorem dX2_combined_76 : decode cX2_combined 76 = .ok (.aload_n 0, 1) := by decide +kernel
theorem dX2_combined_77 : decode cX2_combined 77 = .ok (.iconst 1, 1) := by decide +kernel
theorem dX2_combined_78 : decode cX2_combined 78 = .ok (.aload_n 0, 1) := by decide +kernel
theorem dX2_combined_79 : decode cX2_combined 79 = .ok (.getfield 101, 3) := by decide +kernel
theorem dX2_combined_82 : decode cX2_combined 82 = .ok (.invokestatic 218, 3) := by decide +kernel
theorem dX2_combined_85 : decode cX2_combined 85 = .ok (.iload_n 1, 1) := by decide +kernel
theorem dX2_combined_86 : decode cX2_combined 86 = .ok (.invokevirtual 232, 3) := by decide +kernel
theorem dX2_combined_89 : decode cX2_combined 89 = .ok (.lreturn, 1) := by decide +kernel
theorem dX2_combined_90 : decode cX2_combined 90 = .ok (.aload_n 0, 1) := by decide +kernel
theorem dX2_combined_91 : decode cX2_combined 91 = .ok (.iconst 1, 1) := by decide +kernel
theorem dX2_combined_92 : decode cX2_combined 92 = .ok (.iload_n 1, 1) := by decide +kernel
theorem dX2_combined_93 : decode cX2_combined 93 = .ok (.invokevirtual 232, 3) := by decide +kernel
theorem dX2_combined_96 : decode cX2_combined 96 = .ok (.lreturn, 1) := by decide +kernel
theorem dX2_meanOfEvery_0 : decode cX2_meanOfEvery 0 = .ok (.lconst 0, 1) := by decide +kernel
theorem dX2_meanOfEvery_1 : decode cX2_meanOfEvery 1 = .ok (.lstore_n 3, 1) := by decide +kernel
theorem dX2_meanOfEvery_2 : decode cX2_meanOfEvery 2 = .ok (.lconst 0, 1) := by decide +kernel
theorem dX2_meanOfEvery_3 : decode cX2_meanOfEvery 3 = .ok (.lstore 5, 2) := by decide +kernel
theorem dX2_meanOfEvery_5 : decode cX2_meanOfEvery 5 = .ok (.iconst 0, 1) := by decide +kernel
theorem dX2_meanOfEvery_6 : decode cX2_meanOfEvery 6 = .ok (.istore 7, 2) := by decide +kernel
theorem dX2_meanOfEvery_8 : decode cX2_meanOfEvery 8 = .ok (.iload 7, 2) := by decide +kernel
theorem dX2_meanOfEvery_10 : decode cX2_meanOfEvery 10 = .ok (.iload_n 2, 1) := by decide +kernel
theorem dX2_meanOfEvery_11 : decode cX2_meanOfEvery 11 = .ok (.if_icmp .ge 31, 3) := by decide +kernel
theorem dX2_meanOfEvery_14 : decode cX2_meanOfEvery 14 = .ok (.iload_n 1, 1) := by decide +kernel
theorem dX2_meanOfEvery_15 : decode cX2_meanOfEvery 15 = .ok (.ifCond .le 27, 3) := by decide +kernel
theorem dX2_meanOfEvery_18 : decode cX2_meanOfEvery 18 = .ok (.lload_n 3, 1) := by decide +kernel
theorem dX2_meanOfEvery_19 : decode cX2_meanOfEvery 19 = .ok (.aload_n 0, 1) := by decide +kernel
theorem dX2_meanOfEvery_20 : decode cX2_meanOfEvery 20 = .ok (.iload 7, 2) := by decide +kernel
theorem dX2_meanOfEvery_22 : decode cX2_meanOfEvery 22 = .ok (.invokevirtual 145, 3) := by decide +kernel
theorem dX2_meanOfEvery_25 : decode cX2_meanOfEvery 25 = .ok (.ladd, 1) := by decide +kernel
theorem dX2_meanOfEvery_26 : decode cX2_meanOfEvery 26 = .ok (.lstore_n 3, 1) := by decide +kernel
theorem dX2_meanOfEvery_27 : decode cX2_meanOfEvery 27 = .ok (.lload 5, 2) := by decide +kernel
theorem dX2_meanOfEvery_29 : decode cX2_meanOfEvery 29 = .ok (.lconst 1, 1) := by decide +kernel
theorem dX2_meanOfEvery_30 : decode cX2_meanOfEvery 30 = .ok (.ladd, 1) := by decide +kernel
theorem dX2_meanOfEvery_31 : decode cX2_meanOfEvery 31 = .ok (.lstore 5, 2) := by decide +kernel
theorem dX2_meanOfEvery_33 : decode cX2_meanOfEvery 33 = .ok (.iload 7, 2) := by decide +kernel
theorem dX2_meanOfEvery_35 : decode cX2_meanOfEvery 35 = .ok (.iload_n 1, 1) := by decide +kernel
theorem dX2_meanOfEvery_36 : decode cX2_meanOfEvery 36 = .ok (.iadd, 1) := by decide +kernel
theorem dX2_meanOfEvery_37 : decode cX2_meanOfEvery 37 = .ok (.istore 7, 2) := by decide +kernel
theorem dX2_meanOfEvery_39 : decode cX2_meanOfEvery 39 = .ok (.goto (-31), 3) := by decide +kernel
theorem dX2_meanOfEvery_42 : decode cX2_meanOfEvery 42 = .ok (.lload 5, 2) := by decide +kernel
theorem dX2_meanOfEvery_44 : decode cX2_meanOfEvery 44 = .ok (.lconst 0, 1) := by decide +kernel
theorem dX2_meanOfEvery_45 : decode cX2_meanOfEvery 45 = .ok (.lcmp, 1) := by decide +kernel
theorem dX2_meanOfEvery_46 : decode cX2_meanOfEvery 46 = .ok (.ifCond .le 12, 3) := by decide +kernel
theorem dX2_meanOfEvery_49 : decode cX2_meanOfEvery 49 = .ok (.lload_n 3, 1) := by decide +kernel
theorem dX2_meanOfEvery_50 : decode cX2_meanOfEvery 50 = .ok (.lload 5, 2) := by decide +kernel
theorem dX2_meanOfEvery_52 : decode cX2_meanOfEvery 52 = .ok (.invokestatic 229, 3) := by decide +kernel
theorem dX2_meanOfEvery_55 : decode cX2_meanOfEvery 55 = .ok (.goto 4, 3) := by decide +kernel
theorem dX2_meanOfEvery_58 : decode cX2_meanOfEvery 58 = .ok (.lconst 0, 1) := by decide +kernel
theorem dX2_meanOfEvery_59 : decode cX2_meanOfEvery 59 = .ok (.lreturn, 1) := by decide +kernel
theorem dX2_nextEnd_0 : decode cX2_nextEnd 0 = .ok (.aload_n 0, 1) := by decide +kernel
theorem dX2_nextEnd_1 : decode cX2_nextEnd 1 = .ok (.iload_n 1, 1) := by decide +kernel
theorem dX2_nextEnd_2 : decode cX2_nextEnd 2 = .ok (.iload_n 2, 1) := by decide +kernel
theorem dX2_nextEnd_3 : decode cX2_nextEnd 3 = .ok (.invokevirtual 141, 3) := by decide +kernel
theorem dX2_nextEnd_6 : decode cX2_nextEnd 6 = .ok (.istore_n 3, 1) := by decide +kernel
theorem dX2_nextEnd_7 : decode cX2_nextEnd 7 = .ok (.iload_n 3, 1) := by decide +kernel
theorem dX2_nextEnd_8 : decode cX2_nextEnd 8 = .ok (.ifCond .le 11, 3) := by decide +kernel
theorem dX2_nextEnd_11 : decode cX2_nextEnd 11 = .ok (.aload_n 0, 1) := by decide +kernel
theorem dX2_nextEnd_12 : decode cX2_nextEnd 12 = .ok (.iload_n 3, 1) := by decide +kernel
theorem dX2_nextEnd_13 : decode cX2_nextEnd 13 = .ok (.invokevirtual 236, 3) := by decide +kernel
theorem dX2_nextEnd_16 : decode cX2_nextEnd 16 = .ok (.goto 16, 3) := by decide +kernel
theorem dX2_nextEnd_19 : decode cX2_nextEnd 19 = .ok (.aload_n 0, 1) := by decide +kernel
theorem dX2_nextEnd_20 : decode cX2_nextEnd 20 = .ok (.getfield 23, 3) := by decide +kernel
theorem dX2_nextEnd_23 : decode cX2_nextEnd 23 = .ok (.aload_n 0, 1) := by decide +kernel
theorem dX2_nextEnd_24 : decode cX2_nextEnd 24 = .ok (.getfield 72, 3) := by decide +kernel
theorem dX2_nextEnd_27 : decode cX2_nextEnd 27 = .ok (.iload_n 1, 1) := by decide +kernel
theorem dX2_nextEnd_28 : decode cX2_nextEnd 28 = .ok (.iload_n 2, 1) := by decide +kernel
theorem dX2_nextEnd_29 : decode cX2_nextEnd 29 = .ok (.invokevirtual 130, 3) := by decide +kernel
theorem dX2_nextEnd_32 : decode cX2_nextEnd 32 = .ok (.lreturn, 1) := by decide +kernel
theorem dX2_carryOut_0 : decode cX2_carryOut 0 = .ok (.iconst 0, 1) := by decide +kernel
theorem dX2_carryOut_1 : decode cX2_carryOut 1 = .ok (.istore_n 2, 1) := by decide +kernel
theorem dX2_carryOut_2 : decode cX2_carryOut 2 = .ok (.iload_n 2, 1) := by decide +kernel
theorem dX2_carryOut_3 : decode cX2_carryOut 3 = .ok (.iload_n 1, 1) := by decide +kernel
theorem dX2_carryOut_4 : decode cX2_carryOut 4 = .ok (.if_icmp .ge 78, 3) := by decide +kernel
theorem dX2_carryOut_7 : decode cX2_carryOut 7 = .ok (.aload_n 0, 1) := by decide +kernel
theorem dX2_carryOut_8 : decode cX2_carryOut 8 = .ok (.getfield 72, 3) := by decide +kernel
theorem dX2_carryOut_11 : decode cX2_carryOut 11 = .ok (.bipush 60, 2) := by decide +kernel
theorem dX2_carryOut_13 : decode cX2_carryOut 13 = .ok (.if_icmp .ge 69, 3) := by decide +kernel
theorem dX2_carryOut_16 : decode cX2_carryOut 16 = .ok (.iconst 0, 1) := by decide +kernel
theorem dX2_carryOut_17 : decode cX2_carryOut 17 = .ok (.istore_n 3, 1) := by decide +kernel
theorem dX2_carryOut_18 : decode cX2_carryOut 18 = .ok (.iload_n 3, 1) := by decide +kernel
theorem dX2_carryOut_19 : decode cX2_carryOut 19 = .ok (.aload_n 0, 1) := by decide +kernel
theorem dX2_carryOut_20 : decode cX2_carryOut 20 = .ok (.getfield 53, 3) := by decide +kernel
theorem dX2_carryOut_23 : decode cX2_carryOut 23 = .ok (.if_icmp .ge 43, 3) := by decide +kernel
theorem dX2_carryOut_26 : decode cX2_carryOut 26 = .ok (.aload_n 0, 1) := by decide +kernel
theorem dX2_carryOut_27 : decode cX2_carryOut 27 = .ok (.iload_n 3, 1) := by decide +kernel
theorem dX2_carryOut_28 : decode cX2_carryOut 28 = .ok (.invokevirtual 125, 3) := by decide +kernel
theorem dX2_carryOut_31 : decode cX2_carryOut 31 = .ok (.ifCond .eq 29, 3) := by decide +kernel
theorem dX2_carryOut_34 : decode cX2_carryOut 34 = .ok (.aload_n 0, 1) := by decide +kernel
theorem dX2_carryOut_35 : decode cX2_carryOut 35 = .ok (.getfield 23, 3) := by decide +kernel
theorem dX2_carryOut_38 : decode cX2_carryOut 38 = .ok (.aload_n 0, 1) := by decide +kernel
theorem dX2_carryOut_39 : decode cX2_carryOut 39 = .ok (.getfield 72, 3) := by decide +kernel
theorem dX2_carryOut_42 : decode cX2_carryOut 42 = .ok (.iconst 1, 1) := by decide +kernel
theorem dX2_carryOut_43 : decode cX2_carryOut 43 = .ok (.iadd, 1) := by decide +kernel
theorem dX2_carryOut_44 : decode cX2_carryOut 44 = .ok (.iload_n 3, 1) := by decide +kernel
theorem dX2_carryOut_45 : decode cX2_carryOut 45 = .ok (.aload_n 0, 1) := by decide +kernel
theorem dX2_carryOut_46 : decode cX2_carryOut 46 = .ok (.iload_n 3, 1) := by decide +kernel
theorem dX2_carryOut_47 : decode cX2_carryOut 47 = .ok (.iconst 0, 1) := by decide +kernel
theorem dX2_carryOut_48 : decode cX2_carryOut 48 = .ok (.invokevirtual 239, 3) := by decide +kernel
theorem dX2_carryOut_51 : decode cX2_carryOut 51 = .ok (.aload_n 0, 1) := by decide +kernel
theorem dX2_carryOut_52 : decode cX2_carryOut 52 = .ok (.iload_n 3, 1) := by decide +kernel
theorem dX2_carryOut_53 : decode cX2_carryOut 53 = .ok (.iconst 1, 1) := by decide +kernel
theorem dX2_carryOut_54 : decode cX2_carryOut 54 = .ok (.invokevirtual 239, 3) := by decide +kernel
theorem dX2_carryOut_57 : decode cX2_carryOut 57 = .ok (.invokevirtual 190, 3) := by decide +kernel
theorem dX2_carryOut_60 : decode cX2_carryOut 60 = .ok (.iinc 3 1, 3) := by decide +kernel
theorem dX2_carryOut_63 : decode cX2_carryOut 63 = .ok (.goto (-45), 3) := by decide +kernel
theorem dX2_carryOut_66 : decode cX2_carryOut 66 = .ok (.aload_n 0, 1) := by decide +kernel
theorem dX2_carryOut_67 : decode cX2_carryOut 67 = .ok (.dup, 1) := by decide +kernel
theorem dX2_carryOut_68 : decode cX2_carryOut 68 = .ok (.getfield 72, 3) := by decide +kernel
theorem dX2_carryOut_71 : decode cX2_carryOut 71 = .ok (.iconst 1, 1) := by decide +kernel
theorem dX2_carryOut_72 : decode cX2_carryOut 72 = .ok (.iadd, 1) := by decide +kernel
theorem dX2_carryOut_73 : decode cX2_carryOut 73 = .ok (.putfield 72, 3) := by decide +kernel
theorem dX2_carryOut_76 : decode cX2_carryOut 76 = .ok (.iinc 2 1, 3) := by decide +kernel
theorem dX2_carryOut_79 : decode cX2_carryOut 79 = .ok (.goto (-77), 3) := by decide +kernel
theorem dX2_carryOut_82 : decode cX2_carryOut 82 = .ok (.return_, 1) := by decide +kernel
theorem dX2_carryOutUntil_0 : decode cX2_carryOutUntil 0 = .ok (.iconst 0, 1) := by decide +kernel
theorem dX2_carryOutUntil_1 : decode cX2_carryOutUntil 1 = .ok (.istore 4, 2) := by decide +kernel
theorem dX2_carryOutUntil_3 : decode cX2_carryOutUntil 3 = .ok (.iload 4, 2) := by decide +kernel
theorem dX2_carryOutUntil_5 : decode cX2_carryOutUntil 5 = .ok (.iload_n 3, 1) := by decide +kernel
theorem dX2_carryOutUntil_6 : decode cX2_carryOutUntil 6 = .ok (.if_icmp .ge 34, 3) := by decide +kernel
theorem dX2_carryOutUntil_9 : decode cX2_carryOutUntil 9 = .ok (.aload_n 0, 1) := by decide +kernel
theorem dX2_carryOutUntil_10 : decode cX2_carryOutUntil 10 = .ok (.getfield 72, 3) := by decide +kernel
theorem dX2_carryOutUntil_13 : decode cX2_carryOutUntil 13 = .ok (.bipush 60, 2) := by decide +kernel
theorem dX2_carryOutUntil_15 : decode cX2_carryOutUntil 15 = .ok (.if_icmp .ge 25, 3) := by decide +kernel
theorem dX2_carryOutUntil_18 : decode cX2_carryOutUntil 18 = .ok (.aload_n 0, 1) := by decide +kernel
theorem dX2_carryOutUntil_19 : decode cX2_carryOutUntil 19 = .ok (.iload_n 1, 1) := by decide +kernel
theorem dX2_carryOutUntil_20 : decode cX2_carryOutUntil 20 = .ok (.i2l, 1) := by decide +kernel
theorem dX2_carryOutUntil_21 : decode cX2_carryOutUntil 21 = .ok (.iload_n 2, 1) := by decide +kernel
theorem dX2_carryOutUntil_22 : decode cX2_carryOutUntil 22 = .ok (.i2l, 1) := by decide +kernel
theorem dX2_carryOutUntil_23 : decode cX2_carryOutUntil 23 = .ok (.invokevirtual 243, 3) := by decide +kernel
theorem dX2_carryOutUntil_26 : decode cX2_carryOutUntil 26 = .ok (.ifCond .ne 14, 3) := by decide +kernel
theorem dX2_carryOutUntil_29 : decode cX2_carryOutUntil 29 = .ok (.aload_n 0, 1) := by decide +kernel
theorem dX2_carryOutUntil_30 : decode cX2_carryOutUntil 30 = .ok (.iconst 1, 1) := by decide +kernel
theorem dX2_carryOutUntil_31 : decode cX2_carryOutUntil 31 = .ok (.invokevirtual 114, 3) := by decide +kernel
theorem dX2_carryOutUntil_34 : decode cX2_carryOutUntil 34 = .ok (.iinc 4 1, 3) := by decide +kernel
theorem dX2_carryOutUntil_37 : decode cX2_carryOutUntil 37 = .ok (.goto (-34), 3) := by decide +kernel
theorem dX2_carryOutUntil_40 : decode cX2_carryOutUntil 40 = .ok (.aload_n 0, 1) := by decide +kernel
theorem dX2_carryOutUntil_41 : decode cX2_carryOutUntil 41 = .ok (.iload_n 1, 1) := by decide +kernel
theorem dX2_carryOutUntil_42 : decode cX2_carryOutUntil 42 = .ok (.i2l, 1) := by decide +kernel
theorem dX2_carryOutUntil_43 : decode cX2_carryOutUntil 43 = .ok (.iload_n 2, 1) := by decide +kernel
theorem dX2_carryOutUntil_44 : decode cX2_carryOutUntil 44 = .ok (.i2l, 1) := by decide +kernel
theorem dX2_carryOutUntil_45 : decode cX2_carryOutUntil 45 = .ok (.invokevirtual 243, 3) := by decide +kernel
theorem dX2_carryOutUntil_48 : decode cX2_carryOutUntil 48 = .ok (.ifCond .eq 8, 3) := by decide +kernel
theorem dX2_carryOutUntil_51 : decode cX2_carryOutUntil 51 = .ok (.iload 4, 2) := by decide +kernel
theorem dX2_carryOutUntil_53 : decode cX2_carryOutUntil 53 = .ok (.goto 6, 3) := by decide +kernel
theorem dX2_carryOutUntil_56 : decode cX2_carryOutUntil 56 = .ok (.sipush (-1005), 3) := by decide +kernel
theorem dX2_carryOutUntil_59 : decode cX2_carryOutUntil 59 = .ok (.ireturn, 1) := by decide +kernel
theorem dX2_isWidthAtMost_0 : decode cX2_isWidthAtMost 0 = .ok (.aload_n 0, 1) := by decide +kernel
theorem dX2_isWidthAtMost_1 : decode cX2_isWidthAtMost 1 = .ok (.aload_n 0, 1) := by decide +kernel
theorem dX2_isWidthAtMost_2 : decode cX2_isWidthAtMost 2 = .ok (.getfield 72, 3) := by decide +kernel
theorem dX2_isWidthAtMost_5 : decode cX2_isWidthAtMost 5 = .ok (.invokevirtual 155, 3) := by decide +kernel
theorem dX2_isWidthAtMost_8 : decode cX2_isWidthAtMost 8 = .ok (.lload_n 3, 1) := by decide +kernel
theorem dX2_isWidthAtMost_9 : decode cX2_isWidthAtMost 9 = .ok (.lmul, 1) := by decide +kernel
theorem dX2_isWidthAtMost_10 : decode cX2_isWidthAtMost 10 = .ok (.lload_n 1, 1) := by decide +kernel
theorem dX2_isWidthAtMost_11 : decode cX2_isWidthAtMost 11 = .ok (.aload_n 0, 1) := by decide +kernel
theorem dX2_isWidthAtMost_12 : decode cX2_isWidthAtMost 12 = .ok (.getfield 83, 3) := by decide +kernel
theorem dX2_isWidthAtMost_15 : decode cX2_isWidthAtMost 15 = .ok (.i2l, 1) := by decide +kernel
theorem dX2_isWidthAtMost_16 : decode cX2_isWidthAtMost 16 = .ok (.lmul, 1) := by decide +kernel
theorem dX2_isWidthAtMost_17 : decode cX2_isWidthAtMost 17 = .ok (.lcmp, 1) := by decide +kernel
theorem dX2_isWidthAtMost_18 : decode cX2_isWidthAtMost 18 = .ok (.ifCond .gt 7, 3) := by decide +kernel
theorem dX2_isWidthAtMost_21 : decode cX2_isWidthAtMost 21 = .ok (.iconst 1, 1) := by decide +kernel
theorem dX2_isWidthAtMost_22 : decode cX2_isWidthAtMost 22 = .ok (.goto 4, 3) := by decide +kernel
theorem dX2_isWidthAtMost_25 : decode cX2_isWidthAtMost 25 = .ok (.iconst 0, 1) := by decide +kernel
theorem dX2_isWidthAtMost_26 : decode cX2_isWidthAtMost 26 = .ok (.ireturn, 1) := by decide +kernel
theorem dX2_widthInFuture_0 : decode cX2_widthInFuture 0 = .ok (.aload_n 0, 1) := by decide +kernel
theorem dX2_widthInFuture_1 : decode cX2_widthInFuture 1 = .ok (.getfield 72, 3) := by decide +kernel
theorem dX2_widthInFuture_4 : decode cX2_widthInFuture 4 = .ok (.istore_n 2, 1) := by decide +kernel
theorem dX2_widthInFuture_5 : decode cX2_widthInFuture 5 = .ok (.aload_n 0, 1) := by decide +kernel
theorem dX2_widthInFuture_6 : decode cX2_widthInFuture 6 = .ok (.iload_n 1, 1) := by decide +kernel
theorem dX2_widthInFuture_7 : decode cX2_widthInFuture 7 = .ok (.invokevirtual 114, 3) := by decide +kernel
theorem dX2_widthInFuture_10 : decode cX2_widthInFuture 10 = .ok (.aload_n 0, 1) := by decide +kernel
theorem dX2_widthInFuture_11 : decode cX2_widthInFuture 11 = .ok (.aload_n 0, 1) := by decide +kernel
theorem dX2_widthInFuture_12 : decode cX2_widthInFuture 12 = .ok (.getfield 72, 3) := by decide +kernel
theorem dX2_widthInFuture_15 : decode cX2_widthInFuture 15 = .ok (.invokevirtual 155, 3) := by decide +kernel
theorem dX2_widthInFuture_18 : decode cX2_widthInFuture 18 = .ok (.lstore_n 3, 1) := by decide +kernel
theorem dX2_widthInFuture_19 : decode cX2_widthInFuture 19 = .ok (.aload_n 0, 1) := by decide +kernel
theorem dX2_widthInFuture_20 : decode cX2_widthInFuture 20 = .ok (.iload_n 2, 1) := by decide +kernel
theorem dX2_widthInFuture_21 : decode cX2_widthInFuture 21 = .ok (.putfield 72, 3) := by decide +kernel
theorem dX2_widthInFuture_24 : decode cX2_widthInFuture 24 = .ok (.lload_n 3, 1) := by decide +kernel
theorem dX2_widthInFuture_25 : decode cX2_widthInFuture 25 = .ok (.lreturn, 1) := by decide +kernel
theorem dJ6_bitCount_0f7a4_0 : decode cJ6_bitCount_0f7a4 0 = .ok (.iload_n 0, 1) := by decide +kernel
theorem dJ6_bitCount_0f7a4_1 : decode cJ6_bitCount_0f7a4 1 = .ok (.iload_n 0, 1) := by decide +kernel
theorem dJ6_bitCount_0f7a4_2 : decode cJ6_bitCount_0f7a4 2 = .ok (.iconst 1, 1) := by decide +kernel
theorem dJ6_bitCount_0f7a4_3 : decode cJ6_bitCount_0f7a4 3 = .ok (.iushr, 1) := by decide +kernel
theorem dJ6_bitCount_0f7a4_4 : decode cJ6_bitCount_0f7a4 4 = .ok (.ldc_w 265, 3) := by decide +kernel
theorem dJ6_bitCount_0f7a4_7 : decode cJ6_bitCount_0f7a4 7 = .ok (.iand, 1) := by decide +kernel
theorem dJ6_bitCount_0f7a4_8 : decode cJ6_bitCount_0f7a4 8 = .ok (.isub, 1) := by decide +kernel
theorem dJ6_bitCount_0f7a4_9 : decode cJ6_bitCount_0f7a4 9 = .ok (.istore_n 0, 1) := by decide +kernel
theorem dJ6_bitCount_0f7a4_10 : decode cJ6_bitCount_0f7a4 10 = .ok (.iload_n 0, 1) := by decide +kernel
theorem dJ6_bitCount_0f7a4_11 : decode cJ6_bitCount_0f7a4 11 = .ok (.ldc_w 266, 3) := by decide +kernel
theorem dJ6_bitCount_0f7a4_14 : decode cJ6_bitCount_0f7a4 14 = .ok (.iand, 1) := by decide +kernel
theorem dJ6_bitCount_0f7a4_15 : decode cJ6_bitCount_0f7a4 15 = .ok (.iload_n 0, 1) := by decide +kernel
theorem dJ6_bitCount_0f7a4_16 : decode cJ6_bitCount_0f7a4 16 = .ok (.iconst 2, 1) := by decide +kernel
theorem dJ6_bitCount_0f7a4_17 : decode cJ6_bitCount_0f7a4 17 = .ok (.iushr, 1) := by decide +kernel
theorem dJ6_bitCount_0f7a4_18 : decode cJ6_bitCount_0f7a4 18 = .ok (.ldc_w 266, 3) := by decide +kernel
theorem dJ6_bitCount_0f7a4_21 : decode cJ6_bitCount_0f7a4 21 = .ok (.iand, 1) := by decide +kernel
theorem dJ6_bitCount_0f7a4_22 : decode cJ6_bitCount_0f7a4 22 = .ok (.iadd, 1) := by decide +kernel
theorem dJ6_bitCount_0f7a4_23 : decode cJ6_bitCount_0f7a4 23 = .ok (.istore_n 0, 1) := by decide +kernel
theorem dJ6_bitCount_0f7a4_24 : decode cJ6_bitCount_0f7a4 24 = .ok (.iload_n 0, 1) := by decide +kernel
theorem dJ6_bitCount_0f7a4_25 : decode cJ6_bitCount_0f7a4 25 = .ok (.iload_n 0, 1) := by decide +kernel
theorem dJ6_bitCount_0f7a4_26 : decode cJ6_bitCount_0f7a4 26 = .ok (.iconst 4, 1) := by decide +kernel
theorem dJ6_bitCount_0f7a4_27 : decode cJ6_bitCount_0f7a4 27 = .ok (.iushr, 1) := by decide +kernel
theorem dJ6_bitCount_0f7a4_28 : decode cJ6_bitCount_0f7a4 28 = .ok (.iadd, 1) := by decide +kernel
theorem dJ6_bitCount_0f7a4_29 : decode cJ6_bitCount_0f7a4 29 = .ok (.ldc_w 267, 3) := by decide +kernel
theorem dJ6_bitCount_0f7a4_32 : decode cJ6_bitCount_0f7a4 32 = .ok (.iand, 1) := by decide +kernel
theorem dJ6_bitCount_0f7a4_33 : decode cJ6_bitCount_0f7a4 33 = .ok (.istore_n 0, 1) := by decide +kernel
theorem dJ6_bitCount_0f7a4_34 : decode cJ6_bitCount_0f7a4 34 = .ok (.iload_n 0, 1) := by decide +kernel
theorem dJ6_bitCount_0f7a4_35 : decode cJ6_bitCount_0f7a4 35 = .ok (.iload_n 0, 1) := by decide +kernel
theorem dJ6_bitCount_0f7a4_36 : decode cJ6_bitCount_0f7a4 36 = .ok (.bipush 8, 2) := by decide +kernel
theorem dJ6_bitCount_0f7a4_38 : decode cJ6_bitCount_0f7a4 38 = .ok (.iushr, 1) := by decide +kernel
theorem dJ6_bitCount_0f7a4_39 : decode cJ6_bitCount_0f7a4 39 = .ok (.iadd, 1) := by decide +kernel
theorem dJ6_bitCount_0f7a4_40 : decode cJ6_bitCount_0f7a4 40 = .ok (.istore_n 0, 1) := by decide +kernel
theorem dJ6_bitCount_0f7a4_41 : decode cJ6_bitCount_0f7a4 41 = .ok (.iload_n 0, 1) := by decide +kernel
theorem dJ6_bitCount_0f7a4_42 : decode cJ6_bitCount_0f7a4 42 = .ok (.iload_n 0, 1) := by decide +kernel
theorem dJ6_bitCount_0f7a4_43 : decode cJ6_bitCount_0f7a4 43 = .ok (.bipush 16, 2) := by decide +kernel
theorem dJ6_bitCount_0f7a4_45 : decode cJ6_bitCount_0f7a4 45 = .ok (.iushr, 1) := by decide +kernel
theorem dJ6_bitCount_0f7a4_46 : decode cJ6_bitCount_0f7a4 46 = .ok (.iadd, 1) := by decide +kernel
theorem dJ6_bitCount_0f7a4_47 : decode cJ6_bitCount_0f7a4 47 = .ok (.istore_n 0, 1) := by decide +kernel
theorem dJ6_bitCount_0f7a4_48 : decode cJ6_bitCount_0f7a4 48 = .ok (.iload_n 0, 1) := by decide +kernel
theorem dJ6_bitCount_0f7a4_49 : decode cJ6_bitCount_0f7a4 49 = .ok (.bipush 63, 2) := by decide +kernel
theorem dJ6_bitCount_0f7a4_51 : decode cJ6_bitCount_0f7a4 51 = .ok (.iand, 1) := by decide +kernel
theorem dJ6_bitCount_0f7a4_52 : decode cJ6_bitCount_0f7a4 52 = .ok (.ireturn, 1) := by decide +kernel
theorem dJ9_floorDiv_f86c9_0 : decode cJ9_floorDiv_f86c9 0 = .ok (.lload_n 0, 1) := by decide +kernel
theorem dJ9_floorDiv_f86c9_1 : decode cJ9_floorDiv_f86c9 1 = .ok (.lload_n 2, 1) := by decide +kernel
theorem dJ9_floorDiv_f86c9_2 : decode cJ9_floorDiv_f86c9 2 = .ok (.ldiv, 1) := by decide +kernel
theorem dJ9_floorDiv_f86c9_3 : decode cJ9_floorDiv_f86c9 3 = .ok (.lstore 4, 2) := by decide +kernel
theorem dJ9_floorDiv_f86c9_5 : decode cJ9_floorDiv_f86c9 5 = .ok (.lload_n 0, 1) := by decide +kernel
theorem dJ9_floorDiv_f86c9_6 : decode cJ9_floorDiv_f86c9 6 = .ok (.lload_n 2, 1) := by decide +kernel
theorem dJ9_floorDiv_f86c9_7 : decode cJ9_floorDiv_f86c9 7 = .ok (.lxor, 1) := by decide +kernel
theorem dJ9_floorDiv_f86c9_8 : decode cJ9_floorDiv_f86c9 8 = .ok (.lconst 0, 1) := by decide +kernel
theorem dJ9_floorDiv_f86c9_9 : decode cJ9_floorDiv_f86c9 9 = .ok (.lcmp, 1) := by decide +kernel
theorem dJ9_floorDiv_f86c9_10 : decode cJ9_floorDiv_f86c9 10 = .ok (.ifCond .ge 17, 3) := by decide +kernel
theorem dJ9_floorDiv_f86c9_13 : decode cJ9_floorDiv_f86c9 13 = .ok (.lload 4, 2) := by decide +kernel
theorem dJ9_floorDiv_f86c9_15 : decode cJ9_floorDiv_f86c9 15 = .ok (.lload_n 2, 1) := by decide +kernel
theorem dJ9_floorDiv_f86c9_16 : decode cJ9_floorDiv_f86c9 16 = .ok (.lmul, 1) := by decide +kernel
theorem dJ9_floorDiv_f86c9_17 : decode cJ9_floorDiv_f86c9 17 = .ok (.lload_n 0, 1) := by decide +kernel
theorem dJ9_floorDiv_f86c9_18 : decode cJ9_floorDiv_f86c9 18 = .ok (.lcmp, 1) := by decide +kernel
theorem dJ9_floorDiv_f86c9_19 : decode cJ9_floorDiv_f86c9 19 = .ok (.ifCond .eq 8, 3) := by decide +kernel
theorem dJ9_floorDiv_f86c9_22 : decode cJ9_floorDiv_f86c9 22 = .ok (.lload 4, 2) := by decide +kernel
theorem dJ9_floorDiv_f86c9_24 : decode cJ9_floorDiv_f86c9 24 = .ok (.lconst 1, 1) := by decide +kernel
theorem dJ9_floorDiv_f86c9_25 : decode cJ9_floorDiv_f86c9 25 = .ok (.lsub, 1) := by decide +kernel
theorem dJ9_floorDiv_f86c9_26 : decode cJ9_floorDiv_f86c9 26 = .ok (.lreturn, 1) := by decide +kernel
theorem dJ9_floorDiv_f86c9_27 : decode cJ9_floorDiv_f86c9 27 = .ok (.lload 4, 2) := by decide +kernel
theorem dJ9_floorDiv_f86c9_29 : decode cJ9_floorDiv_f86c9 29 = .ok (.lreturn, 1) := by decide +kernel
theorem dJ9_abs_067f4_0 : decode cJ9_abs_067f4 0 = .ok (.lload_n 0, 1) := by decide +kernel
theorem dJ9_abs_067f4_1 : decode cJ9_abs_067f4 1 = .ok (.lconst 0, 1) := by decide +kernel
theorem dJ9_abs_067f4_2 : decode cJ9_abs_067f4 2 = .ok (.lcmp, 1) := by decide +kernel
theorem dJ9_abs_067f4_3 : decode cJ9_abs_067f4 3 = .ok (.ifCond .ge 8, 3) := by decide +kernel
theorem dJ9_abs_067f4_6 : decode cJ9_abs_067f4 6 = .ok (.lload_n 0, 1) := by decide +kernel
theorem dJ9_abs_067f4_7 : decode cJ9_abs_067f4 7 = .ok (.lneg, 1) := by decide +kernel
theorem dJ9_abs_067f4_8 : decode cJ9_abs_067f4 8 = .ok (.goto 4, 3) := by decide +kernel
theorem dJ9_abs_067f4_11 : decode cJ9_abs_067f4 11 = .ok (.lload_n 0, 1) := by decide +kernel
theorem dJ9_abs_067f4_12 : decode cJ9_abs_067f4 12 = .ok (.lreturn, 1) := by decide +kernel
theorem dJ9_max_7cf53_0 : decode cJ9_max_7cf53 0 = .ok (.iload_n 0, 1) := by decide +kernel
theorem dJ9_max_7cf53_1 : decode cJ9_max_7cf53 1 = .ok (.iload_n 1, 1) := by decide +kernel
theorem dJ9_max_7cf53_2 : decode cJ9_max_7cf53 2 = .ok (.if_icmp .lt 7, 3) := by decide +kernel
theorem dJ9_max_7cf53_5 : decode cJ9_max_7cf53 5 = .ok (.iload_n 0, 1) := by decide +kernel
theorem dJ9_max_7cf53_6 : decode cJ9_max_7cf53 6 = .ok (.goto 4, 3) := by decide +kernel
theorem dJ9_max_7cf53_9 : decode cJ9_max_7cf53 9 = .ok (.iload_n 1, 1) := by decide +kernel
theorem dJ9_max_7cf53_10 : decode cJ9_max_7cf53 10 = .ok (.ireturn, 1) := by decide +kernel
theorem dJ9_max_f86c9_0 : decode cJ9_max_f86c9 0 = .ok (.lload_n 0, 1) := by decide +kernel
theorem dJ9_max_f86c9_1 : decode cJ9_max_f86c9 1 = .ok (.lload_n 2, 1) := by decide +kernel
theorem dJ9_max_f86c9_2 : decode cJ9_max_f86c9 2 = .ok (.lcmp, 1) := by decide +kernel
theorem dJ9_max_f86c9_3 : decode cJ9_max_f86c9 3 = .ok (.ifCond .lt 7, 3) := by decide +kernel
theorem dJ9_max_f86c9_6 : decode cJ9_max_f86c9 6 = .ok (.lload_n 0, 1) := by decide +kernel
theorem dJ9_max_f86c9_7 : decode cJ9_max_f86c9 7 = .ok (.goto 4, 3) := by decide +kernel
theorem dJ9_max_f86c9_10 : decode cJ9_max_f86c9 10 = .ok (.lload_n 2, 1) := by decide +kernel
theorem dJ9_max_f86c9_11 : decode cJ9_max_f86c9 11 = .ok (.lreturn, 1) := by decide +kernel
theorem dJ9_min_f86c9_0 : decode cJ9_min_f86c9 0 = .ok (.lload_n 0, 1) := by decide +kernel
theorem dJ9_min_f86c9_1 : decode cJ9_min_f86c9 1 = .ok (.lload_n 2, 1) := by decide +kernel
theorem dJ9_min_f86c9_2 : decode cJ9_min_f86c9 2 = .ok (.lcmp, 1) := by decide +kernel
theorem dJ9_min_f86c9_3 : decode cJ9_min_f86c9 3 = .ok (.ifCond .gt 7, 3) := by decide +kernel
theorem dJ9_min_f86c9_6 : decode cJ9_min_f86c9 6 = .ok (.lload_n 0, 1) := by decide +kernel
theorem dJ9_min_f86c9_7 : decode cJ9_min_f86c9 7 = .ok (.goto 4, 3) := by decide +kernel
theorem dJ9_min_f86c9_10 : decode cJ9_min_f86c9 10 = .ok (.lload_n 2, 1) := by decide +kernel
theorem dJ9_min_f86c9_11 : decode cJ9_min_f86c9 11 = .ok (.lreturn, 1) := by decide +kernel
theorem dL_cell_0 : decode cL_cell 0 = .ok (.iload_n 1, 1) := by decide +kernel
theorem dL_cell_1 : decode cL_cell 1 = .ok (.aload_n 0, 1) := by decide +kernel
theorem dL_cell_2 : decode cL_cell 2 = .ok (.arraylength, 1) := by decide +kernel
theorem dL_cell_3 : decode cL_cell 3 = .ok (.if_icmp .ge 9, 3) := by decide +kernel
theorem dL_cell_6 : decode cL_cell 6 = .ok (.aload_n 0, 1) := by decide +kernel
theorem dL_cell_7 : decode cL_cell 7 = .ok (.iload_n 1, 1) := by decide +kernel
theorem dL_cell_8 : decode cL_cell 8 = .ok (.iaload, 1) := by decide +kernel
theorem dL_cell_9 : decode cL_cell 9 = .ok (.goto 11, 3) := by decide +kernel
theorem dL_cell_12 : decode cL_cell 12 = .ok (.ldc 7, 2) := by decide +kernel
theorem dL_cell_14 : decode cL_cell 14 = .ok (.iload_n 1, 1) := by decide +kernel
theorem dL_cell_15 : decode cL_cell 15 = .ok (.imul, 1) := by decide +kernel
theorem dL_cell_16 : decode cL_cell 16 = .ok (.sipush 733, 3) := by decide +kernel
theorem dL_cell_19 : decode cL_cell 19 = .ok (.iadd, 1) := by decide +kernel
theorem dL_cell_20 : decode cL_cell 20 = .ok (.ireturn, 1) := by decide +kernel
theorem dL_low_0 : decode cL_low 0 = .ok (.iload_n 0, 1) := by decide +kernel
theorem dL_low_1 : decode cL_low 1 = .ok (.ldc 8, 2) := by decide +kernel
theorem dL_low_3 : decode cL_low 3 = .ok (.iand, 1) := by decide +kernel
theorem dL_low_4 : decode cL_low 4 = .ok (.iload_n 1, 1) := by decide +kernel
theorem dL_low_5 : decode cL_low 5 = .ok (.irem, 1) := by decide +kernel
theorem dL_low_6 : decode cL_low 6 = .ok (.ireturn, 1) := by decide +kernel
theorem dL_none_0 : decode cL_none 0 = .ok (.ldc2_w 9, 3) := by decide +kernel
theorem dL_none_3 : decode cL_none 3 = .ok (.lreturn, 1) := by decide +kernel
theorem dL_down_0 : decode cL_down 0 = .ok (.lload_n 0, 1) := by decide +kernel
theorem dL_down_1 : decode cL_down 1 = .ok (.lload_n 2, 1) := by decide +kernel
theorem dL_down_2 : decode cL_down 2 = .ok (.ldiv, 1) := by decide +kernel
theorem dL_down_3 : decode cL_down 3 = .ok (.lstore 4, 2) := by decide +kernel
theorem dL_down_5 : decode cL_down 5 = .ok (.lload 4, 2) := by decide +kernel
theorem dL_down_7 : decode cL_down 7 = .ok (.lload_n 2, 1) := by decide +kernel
theorem dL_down_8 : decode cL_down 8 = .ok (.lmul, 1) := by decide +kernel
theorem dL_down_9 : decode cL_down 9 = .ok (.lload_n 0, 1) := by decide +kernel
theorem dL_down_10 : decode cL_down 10 = .ok (.lcmp, 1) := by decide +kernel
theorem dL_down_11 : decode cL_down 11 = .ok (.ifCond .le 10, 3) := by decide +kernel
theorem dL_down_14 : decode cL_down 14 = .ok (.lload 4, 2) := by decide +kernel
theorem dL_down_16 : decode cL_down 16 = .ok (.lconst 1, 1) := by decide +kernel
theorem dL_down_17 : decode cL_down 17 = .ok (.lsub, 1) := by decide +kernel
theorem dL_down_18 : decode cL_down 18 = .ok (.goto 5, 3) := by decide +kernel
theorem dL_down_21 : decode cL_down 21 = .ok (.lload 4, 2) := by decide +kernel
theorem dL_down_23 : decode cL_down 23 = .ok (.lreturn, 1) := by decide +kernel
theorem dL_units_0 : decode cL_units 0 = .ok (.lload_n 0, 1) := by decide +kernel
theorem dL_units_1 : decode cL_units 1 = .ok (.invokestatic 11, 3) := by decide +kernel
theorem dL_units_4 : decode cL_units 4 = .ok (.lcmp, 1) := by decide +kernel
theorem dL_units_5 : decode cL_units 5 = .ok (.ifCond .ge 7, 3) := by decide +kernel
theorem dL_units_8 : decode cL_units 8 = .ok (.lload_n 0, 1) := by decide +kernel
theorem dL_units_9 : decode cL_units 9 = .ok (.goto 9, 3) := by decide +kernel
theorem dL_units_12 : decode cL_units 12 = .ok (.lload_n 0, 1) := by decide +kernel
theorem dL_units_13 : decode cL_units 13 = .ok (.lload 4, 2) := by decide +kernel
theorem dL_units_15 : decode cL_units 15 = .ok (.lload_n 2, 1) := by decide +kernel
theorem dL_units_16 : decode cL_units 16 = .ok (.ldiv, 1) := by decide +kernel
theorem dL_units_17 : decode cL_units 17 = .ok (.lmul, 1) := by decide +kernel
theorem dL_units_18 : decode cL_units 18 = .ok (.lreturn, 1) := by decide +kernel
theorem dL_digits_0 : decode cL_digits 0 = .ok (.iconst 0, 1) := by decide +kernel
theorem dL_digits_1 : decode cL_digits 1 = .ok (.istore_n 2, 1) := by decide +kernel
theorem dL_digits_2 : decode cL_digits 2 = .ok (.iconst 0, 1) := by decide +kernel
theorem dL_digits_3 : decode cL_digits 3 = .ok (.istore_n 3, 1) := by decide +kernel
theorem dL_digits_4 : decode cL_digits 4 = .ok (.ldc 17, 2) := by decide +kernel
theorem dL_digits_6 : decode cL_digits 6 = .ok (.istore 4, 2) := by decide +kernel
theorem dL_digits_8 : decode cL_digits 8 = .ok (.iload 4, 2) := by decide +kernel
theorem dL_digits_10 : decode cL_digits 10 = .ok (.ifCond .le 58, 3) := by decide +kernel
theorem dL_digits_13 : decode cL_digits 13 = .ok (.iload_n 3, 1) := by decide +kernel
theorem dL_digits_14 : decode cL_digits 14 = .ok (.ifCond .ne 15, 3) := by decide +kernel
theorem dL_digits_17 : decode cL_digits 17 = .ok (.iload_n 1, 1) := by decide +kernel
theorem dL_digits_18 : decode cL_digits 18 = .ok (.iload 4, 2) := by decide +kernel
theorem dL_digits_20 : decode cL_digits 20 = .ok (.if_icmp .ge 9, 3) := by decide +kernel
theorem dL_digits_23 : decode cL_digits 23 = .ok (.iload 4, 2) := by decide +kernel
theorem dL_digits_25 : decode cL_digits 25 = .ok (.iconst 1, 1) := by decide +kernel
theorem dL_digits_26 : decode cL_digits 26 = .ok (.if_icmp .ne 7, 3) := by decide +kernel
theorem dL_digits_29 : decode cL_digits 29 = .ok (.iconst 1, 1) := by decide +kernel
theorem dL_digits_30 : decode cL_digits 30 = .ok (.goto 4, 3) := by decide +kernel
theorem dL_digits_33 : decode cL_digits 33 = .ok (.iconst 0, 1) := by decide +kernel
theorem dL_digits_34 : decode cL_digits 34 = .ok (.istore_n 3, 1) := by decide +kernel
theorem dL_digits_35 : decode cL_digits 35 = .ok (.iload_n 3, 1) := by decide +kernel
theorem dL_digits_36 : decode cL_digits 36 = .ok (.ifCond .eq 22, 3) := by decide +kernel
theorem dL_digits_39 : decode cL_digits 39 = .ok (.aload_n 0, 1) := by decide +kernel
theorem dL_digits_40 : decode cL_digits 40 = .ok (.bipush 48, 2) := by decide +kernel
theorem dL_digits_42 : decode cL_digits 42 = .ok (.iload_n 1, 1) := by decide +kernel
theorem dL_digits_43 : decode cL_digits 43 = .ok (.iload 4, 2) := by decide +kernel
theorem dL_digits_45 : decode cL_digits 45 = .ok (.idiv, 1) := by decide +kernel
theorem dL_digits_46 : decode cL_digits 46 = .ok (.bipush 10, 2) := by decide +kernel
theorem dL_digits_48 : decode cL_digits 48 = .ok (.irem, 1) := by decide +kernel
theorem dL_digits_49 : decode cL_digits 49 = .ok (.iadd, 1) := by decide +kernel
theorem dL_digits_50 : decode cL_digits 50 = .ok (.i2c, 1) := by decide +kernel
theorem dL_digits_51 : decode cL_digits 51 = .ok (.invokevirtual 18, 3) := by decide +kernel
theorem dL_digits_54 : decode cL_digits 54 = .ok (.pop, 1) := by decide +kernel
theorem dL_digits_55 : decode cL_digits 55 = .ok (.iinc 2 1, 3) := by decide +kernel
theorem dL_digits_58 : decode cL_digits 58 = .ok (.iload 4, 2) := by decide +kernel
theorem dL_digits_60 : decode cL_digits 60 = .ok (.bipush 10, 2) := by decide +kernel
theorem dL_digits_62 : decode cL_digits 62 = .ok (.idiv, 1) := by decide +kernel
theorem dL_digits_63 : decode cL_digits 63 = .ok (.istore 4, 2) := by decide +kernel
theorem dL_digits_65 : decode cL_digits 65 = .ok (.goto (-57), 3) := by decide +kernel
theorem dL_digits_68 : decode cL_digits 68 = .ok (.iload_n 2, 1) := by decide +kernel
theorem dL_digits_69 : decode cL_digits 69 = .ok (.ireturn, 1) := by decide +kernel
theorem dL_number_0 : decode cL_number 0 = .ok (.iconst 0, 1) := by decide +kernel
theorem dL_number_1 : decode cL_number 1 = .ok (.istore_n 3, 1) := by decide +kernel
theorem dL_number_2 : decode cL_number 2 = .ok (.iload_n 1, 1) := by decide +kernel
theorem dL_number_3 : decode cL_number 3 = .ok (.ifCond .ge 13, 3) := by decide +kernel
theorem dL_number_6 : decode cL_number 6 = .ok (.aload_n 0, 1) := by decide +kernel
theorem dL_number_7 : decode cL_number 7 = .ok (.bipush 45, 2) := by decide +kernel
theorem dL_number_9 : decode cL_number 9 = .ok (.invokevirtual 18, 3) := by decide +kernel
theorem dL_number_12 : decode cL_number 12 = .ok (.pop, 1) := by decide +kernel
theorem dL_number_13 : decode cL_number 13 = .ok (.iinc 3 1, 3) := by decide +kernel
theorem dL_number_16 : decode cL_number 16 = .ok (.iload_n 3, 1) := by decide +kernel
theorem dL_number_17 : decode cL_number 17 = .ok (.aload_n 0, 1) := by decide +kernel
theorem dL_number_18 : decode cL_number 18 = .ok (.iload_n 1, 1) := by decide +kernel
theorem dL_number_19 : decode cL_number 19 = .ok (.ifCond .ge 8, 3) := by decide +kernel
theorem dL_number_22 : decode cL_number 22 = .ok (.iload_n 1, 1) := by decide +kernel
theorem dL_number_23 : decode cL_number 23 = .ok (.ineg, 1) := by decide +kernel
theorem dL_number_24 : decode cL_number 24 = .ok (.goto 4, 3) := by decide +kernel
theorem dL_number_27 : decode cL_number 27 = .ok (.iload_n 1, 1) := by decide +kernel
theorem dL_number_28 : decode cL_number 28 = .ok (.invokestatic 24, 3) := by decide +kernel
theorem dL_number_31 : decode cL_number 31 = .ok (.iadd, 1) := by decide +kernel
theorem dL_number_32 : decode cL_number 32 = .ok (.istore_n 3, 1) := by decide +kernel
theorem dL_number_33 : decode cL_number 33 = .ok (.iload_n 2, 1) := by decide +kernel
theorem dL_number_34 : decode cL_number 34 = .ok (.iconst 1, 1) := by decide +kernel
theorem dL_number_35 : decode cL_number 35 = .ok (.if_icmp .le 20, 3) := by decide +kernel
theorem dL_number_38 : decode cL_number 38 = .ok (.aload_n 0, 1) := by decide +kernel
theorem dL_number_39 : decode cL_number 39 = .ok (.bipush 47, 2) := by decide +kernel
theorem dL_number_41 : decode cL_number 41 = .ok (.invokevirtual 18, 3) := by decide +kernel
theorem dL_number_44 : decode cL_number 44 = .ok (.pop, 1) := by decide +kernel
theorem dL_number_45 : decode cL_number 45 = .ok (.iload_n 3, 1) := by decide +kernel
theorem dL_number_46 : decode cL_number 46 = .ok (.iconst 1, 1) := by decide +kernel
theorem dL_number_47 : decode cL_number 47 = .ok (.aload_n 0, 1) := by decide +kernel
theorem dL_number_48 : decode cL_number 48 = .ok (.iload_n 2, 1) := by decide +kernel
theorem dL_number_49 : decode cL_number 49 = .ok (.invokestatic 24, 3) := by decide +kernel
theorem dL_number_52 : decode cL_number 52 = .ok (.iadd, 1) := by decide +kernel
theorem dL_number_53 : decode cL_number 53 = .ok (.iadd, 1) := by decide +kernel
theorem dL_number_54 : decode cL_number 54 = .ok (.istore_n 3, 1) := by decide +kernel
theorem dL_number_55 : decode cL_number 55 = .ok (.iload_n 3, 1) := by decide +kernel
theorem dL_number_56 : decode cL_number 56 = .ok (.ireturn, 1) := by decide +kernel
theorem dL_gives_0 : decode cL_gives 0 = .ok (.aload_n 0, 1) := by decide +kernel
theorem dL_gives_1 : decode cL_gives 1 = .ok (.invokevirtual 28, 3) := by decide +kernel
theorem dL_gives_4 : decode cL_gives 4 = .ok (.pop, 1) := by decide +kernel
theorem dL_gives_5 : decode cL_gives 5 = .ok (.iload_n 3, 1) := by decide +kernel
theorem dL_gives_6 : decode cL_gives 6 = .ok (.iload_n 1, 1) := by decide +kernel
theorem dL_gives_7 : decode cL_gives 7 = .ok (.invokestatic 32, 3) := by decide +kernel
theorem dL_gives_10 : decode cL_gives 10 = .ok (.istore 5, 2) := by decide +kernel
theorem dL_gives_12 : decode cL_gives 12 = .ok (.iload_n 3, 1) := by decide +kernel
theorem dL_gives_13 : decode cL_gives 13 = .ok (.iconst 4, 1) := by decide +kernel
theorem dL_gives_14 : decode cL_gives 14 = .ok (.ishr, 1) := by decide +kernel
theorem dL_gives_15 : decode cL_gives 15 = .ok (.iload_n 1, 1) := by decide +kernel
theorem dL_gives_16 : decode cL_gives 16 = .ok (.invokestatic 32, 3) := by decide +kernel
theorem dL_gives_19 : decode cL_gives 19 = .ok (.istore 6, 2) := by decide +kernel
theorem dL_gives_21 : decode cL_gives 21 = .ok (.iload 4, 2) := by decide +kernel
theorem dL_gives_23 : decode cL_gives 23 = .ok (.iconst 1, 1) := by decide +kernel
theorem dL_gives_24 : decode cL_gives 24 = .ok (.iand, 1) := by decide +kernel
theorem dL_gives_25 : decode cL_gives 25 = .ok (.ifCond .ne 7, 3) := by decide +kernel
theorem dL_gives_28 : decode cL_gives 28 = .ok (.iconst 1, 1) := by decide +kernel
theorem dL_gives_29 : decode cL_gives 29 = .ok (.goto 13, 3) := by decide +kernel
theorem dL_gives_32 : decode cL_gives 32 = .ok (.iload_n 2, 1) := by decide +kernel
theorem dL_gives_33 : decode cL_gives 33 = .ok (.iconst 1, 1) := by decide +kernel
theorem dL_gives_34 : decode cL_gives 34 = .ok (.if_icmp .le 7, 3) := by decide +kernel
theorem dL_gives_37 : decode cL_gives 37 = .ok (.iload_n 2, 1) := by decide +kernel
theorem dL_gives_38 : decode cL_gives 38 = .ok (.goto 4, 3) := by decide +kernel
theorem dL_gives_41 : decode cL_gives 41 = .ok (.iconst 1, 1) := by decide +kernel
theorem dL_gives_42 : decode cL_gives 42 = .ok (.istore 7, 2) := by decide +kernel
theorem dL_gives_44 : decode cL_gives 44 = .ok (.iload 4, 2) := by decide +kernel
theorem dL_gives_46 : decode cL_gives 46 = .ok (.iconst 1, 1) := by decide +kernel
theorem dL_gives_47 : decode cL_gives 47 = .ok (.ishr, 1) := by decide +kernel
theorem dL_gives_48 : decode cL_gives 48 = .ok (.sipush 400, 3) := by decide +kernel
theorem dL_gives_51 : decode cL_gives 51 = .ok (.invokestatic 32, 3) := by decide +kernel
theorem dL_gives_54 : decode cL_gives 54 = .ok (.sipush 200, 3) := by decide +kernel
theorem dL_gives_57 : decode cL_gives 57 = .ok (.isub, 1) := by decide +kernel
theorem dL_gives_58 : decode cL_gives 58 = .ok (.istore 8, 2) := by decide +kernel
theorem dL_gives_60 : decode cL_gives 60 = .ok (.iload 8, 2) := by decide +kernel
theorem dL_gives_62 : decode cL_gives 62 = .ok (.iload 4, 2) := by decide +kernel
theorem dL_gives_64 : decode cL_gives 64 = .ok (.bipush 9, 2) := by decide +kernel
theorem dL_gives_66 : decode cL_gives 66 = .ok (.ishr, 1) := by decide +kernel
theorem dL_gives_67 : decode cL_gives 67 = .ok (.sipush 300, 3) := by decide +kernel
theorem dL_gives_70 : decode cL_gives 70 = .ok (.invokestatic 32, 3) := by decide +kernel
theorem dL_gives_73 : decode cL_gives 73 = .ok (.iadd, 1) := by decide +kernel
theorem dL_gives_74 : decode cL_gives 74 = .ok (.istore 9, 2) := by decide +kernel
theorem dL_gives_76 : decode cL_gives 76 = .ok (.aload_n 0, 1) := by decide +kernel
theorem dL_gives_77 : decode cL_gives 77 = .ok (.iload 8, 2) := by decide +kernel
theorem dL_gives_79 : decode cL_gives 79 = .ok (.iload 7, 2) := by decide +kernel
theorem dL_gives_81 : decode cL_gives 81 = .ok (.invokestatic 36, 3) := by decide +kernel
theorem dL_gives_84 : decode cL_gives 84 = .ok (.istore 10, 2) := by decide +kernel
theorem dL_gives_86 : decode cL_gives 86 = .ok (.iload_n 3, 1) := by decide +kernel
theorem dL_gives_87 : decode cL_gives 87 = .ok (.bipush 8, 2) := by decide +kernel
theorem dL_gives_89 : decode cL_gives 89 = .ok (.ishr, 1) := by decide +kernel
theorem dL_gives_90 : decode cL_gives 90 = .ok (.iconst 3, 1) := by decide +kernel
theorem dL_gives_91 : decode cL_gives 91 = .ok (.iand, 1) := by decide +kernel
theorem dL_gives_92 : decode cL_gives 92 = .ok (.ifCond .ne 7, 3) := by decide +kernel
theorem dL_gives_95 : decode cL_gives 95 = .ok (.iconst 1, 1) := by decide +kernel
theorem dL_gives_96 : decode cL_gives 96 = .ok (.goto 4, 3) := by decide +kernel
theorem dL_gives_99 : decode cL_gives 99 = .ok (.iconst 0, 1) := by decide +kernel
theorem dL_gives_100 : decode cL_gives 100 = .ok (.istore 11, 2) := by decide +kernel
theorem dL_gives_102 : decode cL_gives 102 = .ok (.iload 11, 2) := by decide +kernel
theorem dL_gives_104 : decode cL_gives 104 = .ok (.ifCond .ne 32, 3) := by decide +kernel
theorem dL_gives_107 : decode cL_gives 107 = .ok (.aload_n 0, 1) := by decide +kernel
theorem dL_gives_108 : decode cL_gives 108 = .ok (.bipush 46, 2) := by decide +kernel
theorem dL_gives_110 : decode cL_gives 110 = .ok (.invokevirtual 18, 3) := by decide +kernel
theorem dL_gives_113 : decode cL_gives 113 = .ok (.pop, 1) := by decide +kernel
theorem dL_gives_114 : decode cL_gives 114 = .ok (.aload_n 0, 1) := by decide +kernel
theorem dL_gives_115 : decode cL_gives 115 = .ok (.bipush 46, 2) := by decide +kernel
theorem dL_gives_117 : decode cL_gives 117 = .ok (.invokevirtual 18, 3) := by decide +kernel
theorem dL_gives_120 : decode cL_gives 120 = .ok (.pop, 1) := by decide +kernel
theorem dL_gives_121 : decode cL_gives 121 = .ok (.iload 10, 2) := by decide +kernel
theorem dL_gives_123 : decode cL_gives 123 = .ok (.iconst 2, 1) := by decide +kernel
theorem dL_gives_124 : decode cL_gives 124 = .ok (.aload_n 0, 1) := by decide +kernel
theorem dL_gives_125 : decode cL_gives 125 = .ok (.iload 9, 2) := by decide +kernel
theorem dL_gives_127 : decode cL_gives 127 = .ok (.iload 7, 2) := by decide +kernel
theorem dL_gives_129 : decode cL_gives 129 = .ok (.invokestatic 36, 3) := by decide +kernel
theorem dL_gives_132 : decode cL_gives 132 = .ok (.iadd, 1) := by decide +kernel
theorem dL_gives_133 : decode cL_gives 133 = .ok (.iadd, 1) := by decide +kernel
theorem dL_gives_134 : decode cL_gives 134 = .ok (.istore 10, 2) := by decide +kernel
theorem dL_gives_136 : decode cL_gives 136 = .ok (.aload_n 0, 1) := by decide +kernel
theorem dL_gives_137 : decode cL_gives 137 = .ok (.iconst 3, 1) := by decide +kernel
theorem dL_gives_138 : decode cL_gives 138 = .ok (.invokevirtual 40, 3) := by decide +kernel
theorem dL_gives_141 : decode cL_gives 141 = .ok (.istore 12, 2) := by decide +kernel
theorem dL_gives_143 : decode cL_gives 143 = .ok (.iload_n 3, 1) := by decide +kernel
theorem dL_gives_144 : decode cL_gives 144 = .ok (.bipush 10, 2) := by decide +kernel
theorem dL_gives_146 : decode cL_gives 146 = .ok (.ishr, 1) := by decide +kernel
theorem dL_gives_147 : decode cL_gives 147 = .ok (.bipush 7, 2) := by decide +kernel
theorem dL_gives_149 : decode cL_gives 149 = .ok (.iand, 1) := by decide +kernel
theorem dL_gives_150 : decode cL_gives 150 = .ok (.ifCond .ne 121, 3) := by decide +kernel
theorem dL_gives_153 : decode cL_gives 153 = .ok (.aload_n 0, 1) := by decide +kernel
theorem dL_gives_154 : decode cL_gives 154 = .ok (.bipush 120, 2) := by decide +kernel
theorem dL_gives_156 : decode cL_gives 156 = .ok (.invokevirtual 18, 3) := by decide +kernel
theorem dL_gives_159 : decode cL_gives 159 = .ok (.pop, 1) := by decide +kernel
theorem dL_gives_160 : decode cL_gives 160 = .ok (.aload_n 0, 1) := by decide +kernel
theorem dL_gives_161 : decode cL_gives 161 = .ok (.iload 5, 2) := by decide +kernel
theorem dL_gives_163 : decode cL_gives 163 = .ok (.iload 5, 2) := by decide +kernel
theorem dL_gives_165 : decode cL_gives 165 = .ok (.iconst 1, 1) := by decide +kernel
theorem dL_gives_166 : decode cL_gives 166 = .ok (.iadd, 1) := by decide +kernel
theorem dL_gives_167 : decode cL_gives 167 = .ok (.iload_n 1, 1) := by decide +kernel
theorem dL_gives_168 : decode cL_gives 168 = .ok (.irem, 1) := by decide +kernel
theorem dL_gives_169 : decode cL_gives 169 = .ok (.invokevirtual 44, 3) := by decide +kernel
theorem dL_gives_172 : decode cL_gives 172 = .ok (.istore 13, 2) := by decide +kernel
theorem dL_gives_174 : decode cL_gives 174 = .ok (.aload_n 0, 1) := by decide +kernel
theorem dL_gives_175 : decode cL_gives 175 = .ok (.invokevirtual 28, 3) := by decide +kernel
theorem dL_gives_178 : decode cL_gives 178 = .ok (.pop, 1) := by decide +kernel
theorem dL_gives_179 : decode cL_gives 179 = .ok (.aload_n 0, 1) := by decide +kernel
theorem dL_gives_180 : decode cL_gives 180 = .ok (.iconst 5, 1) := by decide +kernel
theorem dL_gives_181 : decode cL_gives 181 = .ok (.iconst 1, 1) := by decide +kernel
theorem dL_gives_182 : decode cL_gives 182 = .ok (.invokestatic 36, 3) := by decide +kernel
theorem dL_gives_185 : decode cL_gives 185 = .ok (.iconst 2, 1) := by decide +kernel
theorem dL_gives_186 : decode cL_gives 186 = .ok (.iadd, 1) := by decide +kernel
theorem dL_gives_187 : decode cL_gives 187 = .ok (.istore 14, 2) := by decide +kernel
theorem dL_gives_189 : decode cL_gives 189 = .ok (.aload_n 0, 1) := by decide +kernel
theorem dL_gives_190 : decode cL_gives 190 = .ok (.bipush 46, 2) := by decide +kernel
theorem dL_gives_192 : decode cL_gives 192 = .ok (.invokevirtual 18, 3) := by decide +kernel
theorem dL_gives_195 : decode cL_gives 195 = .ok (.pop, 1) := by decide +kernel
theorem dL_gives_196 : decode cL_gives 196 = .ok (.aload_n 0, 1) := by decide +kernel
theorem dL_gives_197 : decode cL_gives 197 = .ok (.bipush 46, 2) := by decide +kernel
theorem dL_gives_199 : decode cL_gives 199 = .ok (.invokevirtual 18, 3) := by decide +kernel
theorem dL_gives_202 : decode cL_gives 202 = .ok (.pop, 1) := by decide +kernel
theorem dL_gives_203 : decode cL_gives 203 = .ok (.aload_n 0, 1) := by decide +kernel
theorem dL_gives_204 : decode cL_gives 204 = .ok (.iconst (-1), 1) := by decide +kernel
theorem dL_gives_205 : decode cL_gives 205 = .ok (.iconst 1, 1) := by decide +kernel
theorem dL_gives_206 : decode cL_gives 206 = .ok (.invokestatic 36, 3) := by decide +kernel
theorem dL_gives_209 : decode cL_gives 209 = .ok (.pop, 1) := by decide +kernel
theorem dL_gives_210 : decode cL_gives 210 = .ok (.iload 13, 2) := by decide +kernel
theorem dL_gives_212 : decode cL_gives 212 = .ok (.bipush (-100), 2) := by decide +kernel
theorem dL_gives_214 : decode cL_gives 214 = .ok (.iload 10, 2) := by decide +kernel
theorem dL_gives_216 : decode cL_gives 216 = .ok (.isub, 1) := by decide +kernel
theorem dL_gives_217 : decode cL_gives 217 = .ok (.if_icmp .ne 52, 3) := by decide +kernel
theorem dL_gives_220 : decode cL_gives 220 = .ok (.aload_n 0, 1) := by decide +kernel
theorem dL_gives_221 : decode cL_gives 221 = .ok (.iload 5, 2) := by decide +kernel
theorem dL_gives_223 : decode cL_gives 223 = .ok (.iload 5, 2) := by decide +kernel
theorem dL_gives_225 : decode cL_gives 225 = .ok (.iconst 1, 1) := by decide +kernel
theorem dL_gives_226 : decode cL_gives 226 = .ok (.iadd, 1) := by decide +kernel
theorem dL_gives_227 : decode cL_gives 227 = .ok (.iload_n 1, 1) := by decide +kernel
theorem dL_gives_228 : decode cL_gives 228 = .ok (.irem, 1) := by decide +kernel
theorem dL_gives_229 : decode cL_gives 229 = .ok (.invokevirtual 44, 3) := by decide +kernel
theorem dL_gives_232 : decode cL_gives 232 = .ok (.bipush (-100), 2) := by decide +kernel
theorem dL_gives_234 : decode cL_gives 234 = .ok (.iload 14, 2) := by decide +kernel
theorem dL_gives_236 : decode cL_gives 236 = .ok (.isub, 1) := by decide +kernel
theorem dL_gives_237 : decode cL_gives 237 = .ok (.if_icmp .ne 32, 3) := by decide +kernel
theorem dL_gives_240 : decode cL_gives 240 = .ok (.aload_n 0, 1) := by decide +kernel
theorem dL_gives_241 : decode cL_gives 241 = .ok (.iload 5, 2) := by decide +kernel
theorem dL_gives_243 : decode cL_gives 243 = .ok (.iload 5, 2) := by decide +kernel
theorem dL_gives_245 : decode cL_gives 245 = .ok (.invokevirtual 44, 3) := by decide +kernel
theorem dL_gives_248 : decode cL_gives 248 = .ok (.sipush (-1001), 3) := by decide +kernel
theorem dL_gives_251 : decode cL_gives 251 = .ok (.if_icmp .ne 18, 3) := by decide +kernel
theorem dL_gives_254 : decode cL_gives 254 = .ok (.aload_n 0, 1) := by decide +kernel
theorem dL_gives_255 : decode cL_gives 255 = .ok (.iload_n 1, 1) := by decide +kernel
theorem dL_gives_256 : decode cL_gives 256 = .ok (.invokevirtual 47, 3) := by decide +kernel
theorem dL_gives_259 : decode cL_gives 259 = .ok (.sipush (-1001), 3) := by decide +kernel
theorem dL_gives_262 : decode cL_gives 262 = .ok (.if_icmp .ne 7, 3) := by decide +kernel
theorem dL_gives_265 : decode cL_gives 265 = .ok (.iconst 1, 1) := by decide +kernel
theorem dL_gives_266 : decode cL_gives 266 = .ok (.goto 4, 3) := by decide +kernel
theorem dL_gives_269 : decode cL_gives 269 = .ok (.iconst 0, 1) := by decide +kernel
theorem dL_gives_270 : decode cL_gives 270 = .ok (.ireturn, 1) := by decide +kernel
theorem dL_gives_271 : decode cL_gives 271 = .ok (.iload_n 3, 1) := by decide +kernel
theorem dL_gives_272 : decode cL_gives 272 = .ok (.bipush 13, 2) := by decide +kernel
theorem dL_gives_274 : decode cL_gives 274 = .ok (.ishr, 1) := by decide +kernel
theorem dL_gives_275 : decode cL_gives 275 = .ok (.iconst 1, 1) := by decide +kernel
theorem dL_gives_276 : decode cL_gives 276 = .ok (.iand, 1) := by decide +kernel
theorem dL_gives_277 : decode cL_gives 277 = .ok (.ifCond .ne 7, 3) := by decide +kernel
theorem dL_gives_280 : decode cL_gives 280 = .ok (.iconst 1, 1) := by decide +kernel
theorem dL_gives_281 : decode cL_gives 281 = .ok (.goto 4, 3) := by decide +kernel
theorem dL_gives_284 : decode cL_gives 284 = .ok (.iconst 0, 1) := by decide +kernel
theorem dL_gives_285 : decode cL_gives 285 = .ok (.istore 13, 2) := by decide +kernel
theorem dL_gives_287 : decode cL_gives 287 = .ok (.iload 13, 2) := by decide +kernel
theorem dL_gives_289 : decode cL_gives 289 = .ok (.ifCond .ne 28, 3) := by decide +kernel
theorem dL_gives_292 : decode cL_gives 292 = .ok (.iload 5, 2) := by decide +kernel
theorem dL_gives_294 : decode cL_gives 294 = .ok (.iload 6, 2) := by decide +kernel
theorem dL_gives_296 : decode cL_gives 296 = .ok (.if_icmp .eq 21, 3) := by decide +kernel
theorem dL_gives_299 : decode cL_gives 299 = .ok (.aload_n 0, 1) := by decide +kernel
theorem dL_gives_300 : decode cL_gives 300 = .ok (.iload 5, 2) := by decide +kernel
theorem dL_gives_302 : decode cL_gives 302 = .ok (.iload 6, 2) := by decide +kernel
theorem dL_gives_304 : decode cL_gives 304 = .ok (.invokevirtual 44, 3) := by decide +kernel
theorem dL_gives_307 : decode cL_gives 307 = .ok (.iconst 1, 1) := by decide +kernel
theorem dL_gives_308 : decode cL_gives 308 = .ok (.if_icmp .ne 7, 3) := by decide +kernel
theorem dL_gives_311 : decode cL_gives 311 = .ok (.iconst 1, 1) := by decide +kernel
theorem dL_gives_312 : decode cL_gives 312 = .ok (.goto 4, 3) := by decide +kernel
theorem dL_gives_315 : decode cL_gives 315 = .ok (.iconst 0, 1) := by decide +kernel
theorem dL_gives_316 : decode cL_gives 316 = .ok (.ireturn, 1) := by decide +kernel
theorem dL_gives_317 : decode cL_gives 317 = .ok (.aload_n 0, 1) := by decide +kernel
theorem dL_gives_318 : decode cL_gives 318 = .ok (.iload 5, 2) := by decide +kernel
theorem dL_gives_320 : decode cL_gives 320 = .ok (.invokevirtual 47, 3) := by decide +kernel
theorem dL_gives_323 : decode cL_gives 323 = .ok (.istore 14, 2) := by decide +kernel
theorem dL_gives_325 : decode cL_gives 325 = .ok (.iload 12, 2) := by decide +kernel
theorem dL_gives_327 : decode cL_gives 327 = .ok (.ifCond .le 17, 3) := by decide +kernel
theorem dL_gives_330 : decode cL_gives 330 = .ok (.iload 14, 2) := by decide +kernel
theorem dL_gives_332 : decode cL_gives 332 = .ok (.sipush (-1003), 3) := by decide +kernel
theorem dL_gives_335 : decode cL_gives 335 = .ok (.if_icmp .ne 7, 3) := by decide +kernel
theorem dL_gives_338 : decode cL_gives 338 = .ok (.iconst 1, 1) := by decide +kernel
theorem dL_gives_339 : decode cL_gives 339 = .ok (.goto 4, 3) := by decide +kernel
theorem dL_gives_342 : decode cL_gives 342 = .ok (.iconst 0, 1) := by decide +kernel
theorem dL_gives_343 : decode cL_gives 343 = .ok (.ireturn, 1) := by decide +kernel
theorem dL_gives_344 : decode cL_gives 344 = .ok (.iload 8, 2) := by decide +kernel
theorem dL_gives_346 : decode cL_gives 346 = .ok (.i2l, 1) := by decide +kernel
theorem dL_gives_347 : decode cL_gives 347 = .ok (.iload_n 2, 1) := by decide +kernel
theorem dL_gives_348 : decode cL_gives 348 = .ok (.i2l, 1) := by decide +kernel
theorem dL_gives_349 : decode cL_gives 349 = .ok (.lmul, 1) := by decide +kernel
theorem dL_gives_350 : decode cL_gives 350 = .ok (.iload 7, 2) := by decide +kernel
theorem dL_gives_352 : decode cL_gives 352 = .ok (.i2l, 1) := by decide +kernel
theorem dL_gives_353 : decode cL_gives 353 = .ok (.ldiv, 1) := by decide +kernel
theorem dL_gives_354 : decode cL_gives 354 = .ok (.lstore 15, 2) := by decide +kernel
theorem dL_gives_356 : decode cL_gives 356 = .ok (.iload 11, 2) := by decide +kernel
theorem dL_gives_358 : decode cL_gives 358 = .ok (.ifCond .eq 8, 3) := by decide +kernel
theorem dL_gives_361 : decode cL_gives 361 = .ok (.lload 15, 2) := by decide +kernel
theorem dL_gives_363 : decode cL_gives 363 = .ok (.goto 13, 3) := by decide +kernel
theorem dL_gives_366 : decode cL_gives 366 = .ok (.iload 9, 2) := by decide +kernel
theorem dL_gives_368 : decode cL_gives 368 = .ok (.i2l, 1) := by decide +kernel
theorem dL_gives_369 : decode cL_gives 369 = .ok (.iload_n 2, 1) := by decide +kernel
theorem dL_gives_370 : decode cL_gives 370 = .ok (.i2l, 1) := by decide +kernel
theorem dL_gives_371 : decode cL_gives 371 = .ok (.lmul, 1) := by decide +kernel
theorem dL_gives_372 : decode cL_gives 372 = .ok (.iload 7, 2) := by decide +kernel
theorem dL_gives_374 : decode cL_gives 374 = .ok (.i2l, 1) := by decide +kernel
theorem dL_gives_375 : decode cL_gives 375 = .ok (.ldiv, 1) := by decide +kernel
theorem dL_gives_376 : decode cL_gives 376 = .ok (.lstore 17, 2) := by decide +kernel
theorem dL_gives_378 : decode cL_gives 378 = .ok (.aload_n 0, 1) := by decide +kernel
theorem dL_gives_379 : decode cL_gives 379 = .ok (.iload 5, 2) := by decide +kernel
theorem dL_gives_381 : decode cL_gives 381 = .ok (.iconst 0, 1) := by decide +kernel
theorem dL_gives_382 : decode cL_gives 382 = .ok (.iconst 0, 1) := by decide +kernel
theorem dL_gives_383 : decode cL_gives 383 = .ok (.invokevirtual 50, 3) := by decide +kernel
theorem dL_gives_386 : decode cL_gives 386 = .ok (.aload_n 0, 1) := by decide +kernel
theorem dL_gives_387 : decode cL_gives 387 = .ok (.iload 5, 2) := by decide +kernel
theorem dL_gives_389 : decode cL_gives 389 = .ok (.iconst 0, 1) := by decide +kernel
theorem dL_gives_390 : decode cL_gives 390 = .ok (.iconst 1, 1) := by decide +kernel
theorem dL_gives_391 : decode cL_gives 391 = .ok (.invokevirtual 50, 3) := by decide +kernel
theorem dL_gives_394 : decode cL_gives 394 = .ok (.iload_n 2, 1) := by decide +kernel
theorem dL_gives_395 : decode cL_gives 395 = .ok (.i2l, 1) := by decide +kernel
theorem dL_gives_396 : decode cL_gives 396 = .ok (.invokestatic 54, 3) := by decide +kernel
theorem dL_gives_399 : decode cL_gives 399 = .ok (.lload 15, 2) := by decide +kernel
theorem dL_gives_401 : decode cL_gives 401 = .ok (.lcmp, 1) := by decide +kernel
theorem dL_gives_402 : decode cL_gives 402 = .ok (.ifCond .ne 34, 3) := by decide +kernel
theorem dL_gives_405 : decode cL_gives 405 = .ok (.aload_n 0, 1) := by decide +kernel
theorem dL_gives_406 : decode cL_gives 406 = .ok (.iload 5, 2) := by decide +kernel
theorem dL_gives_408 : decode cL_gives 408 = .ok (.iconst 1, 1) := by decide +kernel
theorem dL_gives_409 : decode cL_gives 409 = .ok (.iconst 0, 1) := by decide +kernel
theorem dL_gives_410 : decode cL_gives 410 = .ok (.invokevirtual 50, 3) := by decide +kernel
theorem dL_gives_413 : decode cL_gives 413 = .ok (.aload_n 0, 1) := by decide +kernel
theorem dL_gives_414 : decode cL_gives 414 = .ok (.iload 5, 2) := by decide +kernel
theorem dL_gives_416 : decode cL_gives 416 = .ok (.iconst 1, 1) := by decide +kernel
theorem dL_gives_417 : decode cL_gives 417 = .ok (.iconst 1, 1) := by decide +kernel
theorem dL_gives_418 : decode cL_gives 418 = .ok (.invokevirtual 50, 3) := by decide +kernel
theorem dL_gives_421 : decode cL_gives 421 = .ok (.iload_n 2, 1) := by decide +kernel
theorem dL_gives_422 : decode cL_gives 422 = .ok (.i2l, 1) := by decide +kernel
theorem dL_gives_423 : decode cL_gives 423 = .ok (.invokestatic 54, 3) := by decide +kernel
theorem dL_gives_426 : decode cL_gives 426 = .ok (.lload 17, 2) := by decide +kernel
theorem dL_gives_428 : decode cL_gives 428 = .ok (.lcmp, 1) := by decide +kernel
theorem dL_gives_429 : decode cL_gives 429 = .ok (.ifCond .ne 7, 3) := by decide +kernel
theorem dL_gives_432 : decode cL_gives 432 = .ok (.iconst 1, 1) := by decide +kernel
theorem dL_gives_433 : decode cL_gives 433 = .ok (.goto 4, 3) := by decide +kernel
theorem dL_gives_436 : decode cL_gives 436 = .ok (.iconst 0, 1) := by decide +kernel
theorem dL_gives_437 : decode cL_gives 437 = .ok (.istore 19, 2) := by decide +kernel
theorem dL_gives_439 : decode cL_gives 439 = .ok (.iload 14, 2) := by decide +kernel
theorem dL_gives_441 : decode cL_gives 441 = .ok (.iconst 1, 1) := by decide +kernel
theorem dL_gives_442 : decode cL_gives 442 = .ok (.if_icmp .ne 50, 3) := by decide +kernel
theorem dL_gives_445 : decode cL_gives 445 = .ok (.iload 19, 2) := by decide +kernel
theorem dL_gives_447 : decode cL_gives 447 = .ok (.ifCond .eq 45, 3) := by decide +kernel
theorem dL_gives_450 : decode cL_gives 450 = .ok (.aload_n 0, 1) := by decide +kernel
theorem dL_gives_451 : decode cL_gives 451 = .ok (.iload 5, 2) := by decide +kernel
theorem dL_gives_453 : decode cL_gives 453 = .ok (.invokevirtual 58, 3) := by decide +kernel
theorem dL_gives_456 : decode cL_gives 456 = .ok (.ifCond .gt 32, 3) := by decide +kernel
theorem dL_gives_459 : decode cL_gives 459 = .ok (.aload_n 0, 1) := by decide +kernel
theorem dL_gives_460 : decode cL_gives 460 = .ok (.iload 5, 2) := by decide +kernel
theorem dL_gives_462 : decode cL_gives 462 = .ok (.iconst 0, 1) := by decide +kernel
theorem dL_gives_463 : decode cL_gives 463 = .ok (.iconst 1, 1) := by decide +kernel
theorem dL_gives_464 : decode cL_gives 464 = .ok (.iconst 0, 1) := by decide +kernel
theorem dL_gives_465 : decode cL_gives 465 = .ok (.invokevirtual 61, 3) := by decide +kernel
theorem dL_gives_468 : decode cL_gives 468 = .ok (.aload_n 0, 1) := by decide +kernel
theorem dL_gives_469 : decode cL_gives 469 = .ok (.iload 5, 2) := by decide +kernel
theorem dL_gives_471 : decode cL_gives 471 = .ok (.iconst 0, 1) := by decide +kernel
theorem dL_gives_472 : decode cL_gives 472 = .ok (.iconst 1, 1) := by decide +kernel
theorem dL_gives_473 : decode cL_gives 473 = .ok (.iconst 1, 1) := by decide +kernel
theorem dL_gives_474 : decode cL_gives 474 = .ok (.invokevirtual 61, 3) := by decide +kernel
theorem dL_gives_477 : decode cL_gives 477 = .ok (.iload_n 2, 1) := by decide +kernel
theorem dL_gives_478 : decode cL_gives 478 = .ok (.i2l, 1) := by decide +kernel
theorem dL_gives_479 : decode cL_gives 479 = .ok (.invokestatic 54, 3) := by decide +kernel
theorem dL_gives_482 : decode cL_gives 482 = .ok (.lload 17, 2) := by decide +kernel
theorem dL_gives_484 : decode cL_gives 484 = .ok (.lcmp, 1) := by decide +kernel
theorem dL_gives_485 : decode cL_gives 485 = .ok (.ifCond .ne 7, 3) := by decide +kernel
theorem dL_gives_488 : decode cL_gives 488 = .ok (.iconst 1, 1) := by decide +kernel
theorem dL_gives_489 : decode cL_gives 489 = .ok (.goto 4, 3) := by decide +kernel
theorem dL_gives_492 : decode cL_gives 492 = .ok (.iconst 0, 1) := by decide +kernel
theorem dL_gives_493 : decode cL_gives 493 = .ok (.ireturn, 1) := by decide +kernel
theorem dL_due_0 : decode cL_due 0 = .ok (.aload_n 0, 1) := by decide +kernel
theorem dL_due_1 : decode cL_due 1 = .ok (.iconst 2, 1) := by decide +kernel
theorem dL_due_2 : decode cL_due 2 = .ok (.invokevirtual 40, 3) := by decide +kernel
theorem dL_due_5 : decode cL_due 5 = .ok (.istore 5, 2) := by decide +kernel
theorem dL_due_7 : decode cL_due 7 = .ok (.aload_n 0, 1) := by decide +kernel
theorem dL_due_8 : decode cL_due 8 = .ok (.iconst 5, 1) := by decide +kernel
theorem dL_due_9 : decode cL_due 9 = .ok (.invokevirtual 40, 3) := by decide +kernel
theorem dL_due_12 : decode cL_due 12 = .ok (.istore 6, 2) := by decide +kernel
theorem dL_due_14 : decode cL_due 14 = .ok (.aload_n 0, 1) := by decide +kernel
theorem dL_due_15 : decode cL_due 15 = .ok (.iconst 3, 1) := by decide +kernel
theorem dL_due_16 : decode cL_due 16 = .ok (.invokevirtual 40, 3) := by decide +kernel
theorem dL_due_19 : decode cL_due 19 = .ok (.istore 7, 2) := by decide +kernel
theorem dL_due_21 : decode cL_due 21 = .ok (.iload 4, 2) := by decide +kernel
theorem dL_due_23 : decode cL_due 23 = .ok (.iconst 1, 1) := by decide +kernel
theorem dL_due_24 : decode cL_due 24 = .ok (.if_icmp .ne 7, 3) := by decide +kernel
theorem dL_due_27 : decode cL_due 27 = .ok (.iconst 1, 1) := by decide +kernel
theorem dL_due_28 : decode cL_due 28 = .ok (.goto 4, 3) := by decide +kernel
theorem dL_due_31 : decode cL_due 31 = .ok (.iconst 0, 1) := by decide +kernel
theorem dL_due_32 : decode cL_due 32 = .ok (.istore 8, 2) := by decide +kernel
theorem dL_due_34 : decode cL_due 34 = .ok (.iconst 0, 1) := by decide +kernel
theorem dL_due_35 : decode cL_due 35 = .ok (.istore 9, 2) := by decide +kernel
theorem dL_due_37 : decode cL_due 37 = .ok (.iconst 0, 1) := by decide +kernel
theorem dL_due_38 : decode cL_due 38 = .ok (.istore 10, 2) := by decide +kernel
theorem dL_due_40 : decode cL_due 40 = .ok (.aload_n 0, 1) := by decide +kernel
theorem dL_due_41 : decode cL_due 41 = .ok (.iload_n 3, 1) := by decide +kernel
theorem dL_due_42 : decode cL_due 42 = .ok (.iconst 0, 1) := by decide +kernel
theorem dL_due_43 : decode cL_due 43 = .ok (.iload 8, 2) := by decide +kernel
theorem dL_due_45 : decode cL_due 45 = .ok (.iconst 0, 1) := by decide +kernel
theorem dL_due_46 : decode cL_due 46 = .ok (.invokevirtual 65, 3) := by decide +kernel
theorem dL_due_49 : decode cL_due 49 = .ok (.aload_n 0, 1) := by decide +kernel
theorem dL_due_50 : decode cL_due 50 = .ok (.iload_n 3, 1) := by decide +kernel
theorem dL_due_51 : decode cL_due 51 = .ok (.iconst 0, 1) := by decide +kernel
theorem dL_due_52 : decode cL_due 52 = .ok (.iload 8, 2) := by decide +kernel
theorem dL_due_54 : decode cL_due 54 = .ok (.iconst 1, 1) := by decide +kernel
theorem dL_due_55 : decode cL_due 55 = .ok (.invokevirtual 65, 3) := by decide +kernel
theorem dL_due_58 : decode cL_due 58 = .ok (.iload 5, 2) := by decide +kernel
theorem dL_due_60 : decode cL_due 60 = .ok (.i2l, 1) := by decide +kernel
theorem dL_due_61 : decode cL_due 61 = .ok (.invokestatic 54, 3) := by decide +kernel
theorem dL_due_64 : decode cL_due 64 = .ok (.lstore 11, 2) := by decide +kernel
theorem dL_due_66 : decode cL_due 66 = .ok (.iconst 0, 1) := by decide +kernel
theorem dL_due_67 : decode cL_due 67 = .ok (.istore 13, 2) := by decide +kernel
theorem dL_due_69 : decode cL_due 69 = .ok (.iload 13, 2) := by decide +kernel
theorem dL_due_71 : decode cL_due 71 = .ok (.iload_n 1, 1) := by decide +kernel
theorem dL_due_72 : decode cL_due 72 = .ok (.if_icmp .ge 83, 3) := by decide +kernel
theorem dL_due_75 : decode cL_due 75 = .ok (.aload_n 0, 1) := by decide +kernel
theorem dL_due_76 : decode cL_due 76 = .ok (.iload_n 3, 1) := by decide +kernel
theorem dL_due_77 : decode cL_due 77 = .ok (.iload 13, 2) := by decide +kernel
theorem dL_due_79 : decode cL_due 79 = .ok (.iload 8, 2) := by decide +kernel
theorem dL_due_81 : decode cL_due 81 = .ok (.iconst 0, 1) := by decide +kernel
theorem dL_due_82 : decode cL_due 82 = .ok (.invokevirtual 68, 3) := by decide +kernel
theorem dL_due_85 : decode cL_due 85 = .ok (.aload_n 0, 1) := by decide +kernel
theorem dL_due_86 : decode cL_due 86 = .ok (.iload_n 3, 1) := by decide +kernel
theorem dL_due_87 : decode cL_due 87 = .ok (.iload 13, 2) := by decide +kernel
theorem dL_due_89 : decode cL_due 89 = .ok (.iload 8, 2) := by decide +kernel
theorem dL_due_91 : decode cL_due 91 = .ok (.iconst 1, 1) := by decide +kernel
theorem dL_due_92 : decode cL_due 92 = .ok (.invokevirtual 68, 3) := by decide +kernel
theorem dL_due_95 : decode cL_due 95 = .ok (.iload 5, 2) := by decide +kernel
theorem dL_due_97 : decode cL_due 97 = .ok (.i2l, 1) := by decide +kernel
theorem dL_due_98 : decode cL_due 98 = .ok (.invokestatic 54, 3) := by decide +kernel
theorem dL_due_101 : decode cL_due 101 = .ok (.lstore 14, 2) := by decide +kernel
