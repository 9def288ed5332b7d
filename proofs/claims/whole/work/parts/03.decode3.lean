theorem dX2_sentEnd_159 : decode cX2_sentEnd 159 = .ok (.getfield 72, 3) := by decide +kernel
theorem dX2_sentEnd_162 : decode cX2_sentEnd 162 = .ok (.iload_n 2, 1) := by decide +kernel
theorem dX2_sentEnd_163 : decode cX2_sentEnd 163 = .ok (.iload_n 3, 1) := by decide +kernel
theorem dX2_sentEnd_164 : decode cX2_sentEnd 164 = .ok (.invokevirtual 130, 3) := by decide +kernel
theorem dX2_sentEnd_167 : decode cX2_sentEnd 167 = .ok (.lstore 4, 2) := by decide +kernel
theorem dX2_sentEnd_169 : decode cX2_sentEnd 169 = .ok (.goto 56, 3) := by decide +kernel
theorem dX2_sentEnd_172 : decode cX2_sentEnd 172 = .ok (.aload_n 0, 1) := by decide +kernel
theorem dX2_sentEnd_173 : decode cX2_sentEnd 173 = .ok (.getfield 23, 3) := by decide +kernel
theorem dX2_sentEnd_176 : decode cX2_sentEnd 176 = .ok (.iconst 0, 1) := by decide +kernel
theorem dX2_sentEnd_177 : decode cX2_sentEnd 177 = .ok (.iload_n 1, 1) := by decide +kernel
theorem dX2_sentEnd_178 : decode cX2_sentEnd 178 = .ok (.iload_n 3, 1) := by decide +kernel
theorem dX2_sentEnd_179 : decode cX2_sentEnd 179 = .ok (.invokevirtual 130, 3) := by decide +kernel
theorem dX2_sentEnd_182 : decode cX2_sentEnd 182 = .ok (.aload_n 0, 1) := by decide +kernel
theorem dX2_sentEnd_183 : decode cX2_sentEnd 183 = .ok (.getfield 72, 3) := by decide +kernel
theorem dX2_sentEnd_186 : decode cX2_sentEnd 186 = .ok (.i2l, 1) := by decide +kernel
theorem dX2_sentEnd_187 : decode cX2_sentEnd 187 = .ok (.aload_n 0, 1) := by decide +kernel
theorem dX2_sentEnd_188 : decode cX2_sentEnd 188 = .ok (.getfield 37, 3) := by decide +kernel
theorem dX2_sentEnd_191 : decode cX2_sentEnd 191 = .ok (.iload_n 1, 1) := by decide +kernel
theorem dX2_sentEnd_192 : decode cX2_sentEnd 192 = .ok (.laload, 1) := by decide +kernel
theorem dX2_sentEnd_193 : decode cX2_sentEnd 193 = .ok (.lmul, 1) := by decide +kernel
theorem dX2_sentEnd_194 : decode cX2_sentEnd 194 = .ok (.ladd, 1) := by decide +kernel
theorem dX2_sentEnd_195 : decode cX2_sentEnd 195 = .ok (.lstore 4, 2) := by decide +kernel
theorem dX2_sentEnd_197 : decode cX2_sentEnd 197 = .ok (.goto 28, 3) := by decide +kernel
theorem dX2_sentEnd_200 : decode cX2_sentEnd 200 = .ok (.aload_n 0, 1) := by decide +kernel
theorem dX2_sentEnd_201 : decode cX2_sentEnd 201 = .ok (.getfield 23, 3) := by decide +kernel
theorem dX2_sentEnd_204 : decode cX2_sentEnd 204 = .ok (.iconst 0, 1) := by decide +kernel
theorem dX2_sentEnd_205 : decode cX2_sentEnd 205 = .ok (.aload_n 0, 1) := by decide +kernel
theorem dX2_sentEnd_206 : decode cX2_sentEnd 206 = .ok (.getfield 72, 3) := by decide +kernel
theorem dX2_sentEnd_209 : decode cX2_sentEnd 209 = .ok (.aload_n 0, 1) := by decide +kernel
theorem dX2_sentEnd_210 : decode cX2_sentEnd 210 = .ok (.iload_n 1, 1) := by decide +kernel
theorem dX2_sentEnd_211 : decode cX2_sentEnd 211 = .ok (.iload_n 2, 1) := by decide +kernel
theorem dX2_sentEnd_212 : decode cX2_sentEnd 212 = .ok (.invokevirtual 94, 3) := by decide +kernel
theorem dX2_sentEnd_215 : decode cX2_sentEnd 215 = .ok (.isub, 1) := by decide +kernel
theorem dX2_sentEnd_216 : decode cX2_sentEnd 216 = .ok (.invokestatic 218, 3) := by decide +kernel
theorem dX2_sentEnd_219 : decode cX2_sentEnd 219 = .ok (.iload_n 1, 1) := by decide +kernel
theorem dX2_sentEnd_220 : decode cX2_sentEnd 220 = .ok (.iload_n 3, 1) := by decide +kernel
theorem dX2_sentEnd_221 : decode cX2_sentEnd 221 = .ok (.invokevirtual 130, 3) := by decide +kernel
theorem dX2_sentEnd_224 : decode cX2_sentEnd 224 = .ok (.lreturn, 1) := by decide +kernel
theorem dX2_sentEnd_225 : decode cX2_sentEnd 225 = .ok (.ldc2_w 220, 3) := by decide +kernel
theorem dX2_sentEnd_228 : decode cX2_sentEnd 228 = .ok (.aload_n 0, 1) := by decide +kernel
theorem dX2_sentEnd_229 : decode cX2_sentEnd 229 = .ok (.getfield 83, 3) := by decide +kernel
theorem dX2_sentEnd_232 : decode cX2_sentEnd 232 = .ok (.i2l, 1) := by decide +kernel
theorem dX2_sentEnd_233 : decode cX2_sentEnd 233 = .ok (.lmul, 1) := by decide +kernel
theorem dX2_sentEnd_234 : decode cX2_sentEnd 234 = .ok (.lstore 6, 2) := by decide +kernel
theorem dX2_sentEnd_236 : decode cX2_sentEnd 236 = .ok (.lload 6, 2) := by decide +kernel
theorem dX2_sentEnd_238 : decode cX2_sentEnd 238 = .ok (.lneg, 1) := by decide +kernel
theorem dX2_sentEnd_239 : decode cX2_sentEnd 239 = .ok (.lload 6, 2) := by decide +kernel
theorem dX2_sentEnd_241 : decode cX2_sentEnd 241 = .ok (.lload 4, 2) := by decide +kernel
theorem dX2_sentEnd_243 : decode cX2_sentEnd 243 = .ok (.invokestatic 222, 3) := by decide +kernel
theorem dX2_sentEnd_246 : decode cX2_sentEnd 246 = .ok (.invokestatic 215, 3) := by decide +kernel
theorem dX2_sentEnd_249 : decode cX2_sentEnd 249 = .ok (.lreturn, 1) := by decide +kernel
theorem dX2_collectRest_0 : decode cX2_collectRest 0 = .ok (.iconst 0, 1) := by decide +kernel
theorem dX2_collectRest_1 : decode cX2_collectRest 1 = .ok (.istore_n 3, 1) := by decide +kernel
theorem dX2_collectRest_2 : decode cX2_collectRest 2 = .ok (.iconst 0, 1) := by decide +kernel
theorem dX2_collectRest_3 : decode cX2_collectRest 3 = .ok (.istore 4, 2) := by decide +kernel
theorem dX2_collectRest_5 : decode cX2_collectRest 5 = .ok (.iload 4, 2) := by decide +kernel
theorem dX2_collectRest_7 : decode cX2_collectRest 7 = .ok (.aload_n 0, 1) := by decide +kernel
theorem dX2_collectRest_8 : decode cX2_collectRest 8 = .ok (.getfield 53, 3) := by decide +kernel
theorem dX2_collectRest_11 : decode cX2_collectRest 11 = .ok (.if_icmp .ge 36, 3) := by decide +kernel
theorem dX2_collectRest_14 : decode cX2_collectRest 14 = .ok (.aload_n 0, 1) := by decide +kernel
theorem dX2_collectRest_15 : decode cX2_collectRest 15 = .ok (.iload 4, 2) := by decide +kernel
theorem dX2_collectRest_17 : decode cX2_collectRest 17 = .ok (.iload_n 1, 1) := by decide +kernel
theorem dX2_collectRest_18 : decode cX2_collectRest 18 = .ok (.invokevirtual 94, 3) := by decide +kernel
theorem dX2_collectRest_21 : decode cX2_collectRest 21 = .ok (.iconst (-1), 1) := by decide +kernel
theorem dX2_collectRest_22 : decode cX2_collectRest 22 = .ok (.if_icmp .eq 19, 3) := by decide +kernel
theorem dX2_collectRest_25 : decode cX2_collectRest 25 = .ok (.aload_n 0, 1) := by decide +kernel
theorem dX2_collectRest_26 : decode cX2_collectRest 26 = .ok (.aload_n 0, 1) := by decide +kernel
theorem dX2_collectRest_27 : decode cX2_collectRest 27 = .ok (.iload 4, 2) := by decide +kernel
theorem dX2_collectRest_29 : decode cX2_collectRest 29 = .ok (.iload_n 1, 1) := by decide +kernel
theorem dX2_collectRest_30 : decode cX2_collectRest 30 = .ok (.iload_n 2, 1) := by decide +kernel
theorem dX2_collectRest_31 : decode cX2_collectRest 31 = .ok (.invokevirtual 138, 3) := by decide +kernel
theorem dX2_collectRest_34 : decode cX2_collectRest 34 = .ok (.iload_n 3, 1) := by decide +kernel
theorem dX2_collectRest_35 : decode cX2_collectRest 35 = .ok (.invokevirtual 225, 3) := by decide +kernel
theorem dX2_collectRest_38 : decode cX2_collectRest 38 = .ok (.iinc 3 1, 3) := by decide +kernel
theorem dX2_collectRest_41 : decode cX2_collectRest 41 = .ok (.iinc 4 1, 3) := by decide +kernel
theorem dX2_collectRest_44 : decode cX2_collectRest 44 = .ok (.goto (-39), 3) := by decide +kernel
theorem dX2_collectRest_47 : decode cX2_collectRest 47 = .ok (.iconst 0, 1) := by decide +kernel
theorem dX2_collectRest_48 : decode cX2_collectRest 48 = .ok (.iload_n 3, 1) := by decide +kernel
theorem dX2_collectRest_49 : decode cX2_collectRest 49 = .ok (.iconst 2, 1) := by decide +kernel
theorem dX2_collectRest_50 : decode cX2_collectRest 50 = .ok (.aload_n 0, 1) := by decide +kernel
theorem dX2_collectRest_51 : decode cX2_collectRest 51 = .ok (.getfield 101, 3) := by decide +kernel
theorem dX2_collectRest_54 : decode cX2_collectRest 54 = .ok (.imul, 1) := by decide +kernel
theorem dX2_collectRest_55 : decode cX2_collectRest 55 = .ok (.isub, 1) := by decide +kernel
theorem dX2_collectRest_56 : decode cX2_collectRest 56 = .ok (.invokestatic 218, 3) := by decide +kernel
theorem dX2_collectRest_59 : decode cX2_collectRest 59 = .ok (.ireturn, 1) := by decide +kernel
theorem dX2_insertAscending_0 : decode cX2_insertAscending 0 = .ok (.iload_n 3, 1) := by decide +kernel
theorem dX2_insertAscending_1 : decode cX2_insertAscending 1 = .ok (.istore 4, 2) := by decide +kernel
theorem dX2_insertAscending_3 : decode cX2_insertAscending 3 = .ok (.iload 4, 2) := by decide +kernel
theorem dX2_insertAscending_5 : decode cX2_insertAscending 5 = .ok (.ifCond .lt 13, 3) := by decide +kernel
theorem dX2_insertAscending_8 : decode cX2_insertAscending 8 = .ok (.iload 4, 2) := by decide +kernel
theorem dX2_insertAscending_10 : decode cX2_insertAscending 10 = .ok (.aload_n 0, 1) := by decide +kernel
theorem dX2_insertAscending_11 : decode cX2_insertAscending 11 = .ok (.getfield 41, 3) := by decide +kernel
theorem dX2_insertAscending_14 : decode cX2_insertAscending 14 = .ok (.arraylength, 1) := by decide +kernel
theorem dX2_insertAscending_15 : decode cX2_insertAscending 15 = .ok (.if_icmp .lt 4, 3) := by decide +kernel
theorem dX2_insertAscending_18 : decode cX2_insertAscending 18 = .ok (.return_, 1) := by decide +kernel
theorem dX2_insertAscending_19 : decode cX2_insertAscending 19 = .ok (.iload 4, 2) := by decide +kernel
theorem dX2_insertAscending_21 : decode cX2_insertAscending 21 = .ok (.ifCond .le 39, 3) := by decide +kernel
theorem dX2_insertAscending_24 : decode cX2_insertAscending 24 = .ok (.aload_n 0, 1) := by decide +kernel
theorem dX2_insertAscending_25 : decode cX2_insertAscending 25 = .ok (.getfield 41, 3) := by decide +kernel
theorem dX2_insertAscending_28 : decode cX2_insertAscending 28 = .ok (.iload 4, 2) := by decide +kernel
theorem dX2_insertAscending_30 : decode cX2_insertAscending 30 = .ok (.iconst 1, 1) := by decide +kernel
theorem dX2_insertAscending_31 : decode cX2_insertAscending 31 = .ok (.isub, 1) := by decide +kernel
theorem dX2_insertAscending_32 : decode cX2_insertAscending 32 = .ok (.laload, 1) := by decide +kernel
theorem dX2_insertAscending_33 : decode cX2_insertAscending 33 = .ok (.lload_n 1, 1) := by decide +kernel
theorem dX2_insertAscending_34 : decode cX2_insertAscending 34 = .ok (.lcmp, 1) := by decide +kernel
theorem dX2_insertAscending_35 : decode cX2_insertAscending 35 = .ok (.ifCond .le 25, 3) := by decide +kernel
theorem dX2_insertAscending_38 : decode cX2_insertAscending 38 = .ok (.aload_n 0, 1) := by decide +kernel
theorem dX2_insertAscending_39 : decode cX2_insertAscending 39 = .ok (.getfield 41, 3) := by decide +kernel
theorem dX2_insertAscending_42 : decode cX2_insertAscending 42 = .ok (.iload 4, 2) := by decide +kernel
theorem dX2_insertAscending_44 : decode cX2_insertAscending 44 = .ok (.aload_n 0, 1) := by decide +kernel
theorem dX2_insertAscending_45 : decode cX2_insertAscending 45 = .ok (.getfield 41, 3) := by decide +kernel
theorem dX2_insertAscending_48 : decode cX2_insertAscending 48 = .ok (.iload 4, 2) := by decide +kernel
theorem dX2_insertAscending_50 : decode cX2_insertAscending 50 = .ok (.iconst 1, 1) := by decide +kernel
theorem dX2_insertAscending_51 : decode cX2_insertAscending 51 = .ok (.isub, 1) := by decide +kernel
theorem dX2_insertAscending_52 : decode cX2_insertAscending 52 = .ok (.laload, 1) := by decide +kernel
theorem dX2_insertAscending_53 : decode cX2_insertAscending 53 = .ok (.lastore, 1) := by decide +kernel
theorem dX2_insertAscending_54 : decode cX2_insertAscending 54 = .ok (.iinc 4 (-1), 3) := by decide +kernel
theorem dX2_insertAscending_57 : decode cX2_insertAscending 57 = .ok (.goto (-38), 3) := by decide +kernel
theorem dX2_insertAscending_60 : decode cX2_insertAscending 60 = .ok (.aload_n 0, 1) := by decide +kernel
theorem dX2_insertAscending_61 : decode cX2_insertAscending 61 = .ok (.getfield 41, 3) := by decide +kernel
theorem dX2_insertAscending_64 : decode cX2_insertAscending 64 = .ok (.iload 4, 2) := by decide +kernel
theorem dX2_insertAscending_66 : decode cX2_insertAscending 66 = .ok (.lload_n 1, 1) := by decide +kernel
theorem dX2_insertAscending_67 : decode cX2_insertAscending 67 = .ok (.lastore, 1) := by decide +kernel
theorem dX2_insertAscending_68 : decode cX2_insertAscending 68 = .ok (.return_, 1) := by decide +kernel
theorem dX2_restAt_0 : decode cX2_restAt 0 = .ok (.aload_n 0, 1) := by decide +kernel
theorem dX2_restAt_1 : decode cX2_restAt 1 = .ok (.getfield 101, 3) := by decide +kernel
theorem dX2_restAt_4 : decode cX2_restAt 4 = .ok (.iload_n 1, 1) := by decide +kernel
theorem dX2_restAt_5 : decode cX2_restAt 5 = .ok (.iadd, 1) := by decide +kernel
theorem dX2_restAt_6 : decode cX2_restAt 6 = .ok (.istore_n 2, 1) := by decide +kernel
theorem dX2_restAt_7 : decode cX2_restAt 7 = .ok (.iload_n 2, 1) := by decide +kernel
theorem dX2_restAt_8 : decode cX2_restAt 8 = .ok (.ifCond .lt 21, 3) := by decide +kernel
theorem dX2_restAt_11 : decode cX2_restAt 11 = .ok (.iload_n 2, 1) := by decide +kernel
theorem dX2_restAt_12 : decode cX2_restAt 12 = .ok (.aload_n 0, 1) := by decide +kernel
theorem dX2_restAt_13 : decode cX2_restAt 13 = .ok (.getfield 41, 3) := by decide +kernel
theorem dX2_restAt_16 : decode cX2_restAt 16 = .ok (.arraylength, 1) := by decide +kernel
theorem dX2_restAt_17 : decode cX2_restAt 17 = .ok (.if_icmp .ge 12, 3) := by decide +kernel
theorem dX2_restAt_20 : decode cX2_restAt 20 = .ok (.aload_n 0, 1) := by decide +kernel
theorem dX2_restAt_21 : decode cX2_restAt 21 = .ok (.getfield 41, 3) := by decide +kernel
theorem dX2_restAt_24 : decode cX2_restAt 24 = .ok (.iload_n 2, 1) := by decide +kernel
theorem dX2_restAt_25 : decode cX2_restAt 25 = .ok (.laload, 1) := by decide +kernel
theorem dX2_restAt_26 : decode cX2_restAt 26 = .ok (.goto 4, 3) := by decide +kernel
theorem dX2_restAt_29 : decode cX2_restAt 29 = .ok (.lconst 0, 1) := by decide +kernel
theorem dX2_restAt_30 : decode cX2_restAt 30 = .ok (.lreturn, 1) := by decide +kernel
theorem dX2_combined_0 : decode cX2_combined 0 = .ok (.aload_n 0, 1) := by decide +kernel
theorem dX2_combined_1 : decode cX2_combined 1 = .ok (.getfield 98, 3) := by decide +kernel
theorem dX2_combined_4 : decode cX2_combined 4 = .ok (.tableswitch 86 1 3 #[28, 48, 72], 28) := by decide +kernel
theorem dX2_combined_32 : decode cX2_combined 32 = .ok (.aload_n 0, 1) := by decide +kernel
theorem dX2_combined_33 : decode cX2_combined 33 = .ok (.iconst 0, 1) := by decide +kernel
theorem dX2_combined_34 : decode cX2_combined 34 = .ok (.invokevirtual 145, 3) := by decide +kernel
theorem dX2_combined_37 : decode cX2_combined 37 = .ok (.aload_n 0, 1) := by decide +kernel
theorem dX2_combined_38 : decode cX2_combined 38 = .ok (.iload_n 1, 1) := by decide +kernel
theorem dX2_combined_39 : decode cX2_combined 39 = .ok (.iconst 1, 1) := by decide +kernel
theorem dX2_combined_40 : decode cX2_combined 40 = .ok (.isub, 1) := by decide +kernel
theorem dX2_combined_41 : decode cX2_combined 41 = .ok (.invokevirtual 145, 3) := by decide +kernel
theorem dX2_combined_44 : decode cX2_combined 44 = .ok (.ladd, 1) := by decide +kernel
theorem dX2_combined_45 : decode cX2_combined 45 = .ok (.ldc2_w 166, 3) := by decide +kernel
theorem dX2_combined_48 : decode cX2_combined 48 = .ok (.invokestatic 229, 3) := by decide +kernel
theorem dX2_combined_51 : decode cX2_combined 51 = .ok (.lreturn, 1) := by decide +kernel
theorem dX2_combined_52 : decode cX2_combined 52 = .ok (.aload_n 0, 1) := by decide +kernel
theorem dX2_combined_53 : decode cX2_combined 53 = .ok (.iload_n 1, 1) := by decide +kernel
theorem dX2_combined_54 : decode cX2_combined 54 = .ok (.iconst 1, 1) := by decide +kernel
theorem dX2_combined_55 : decode cX2_combined 55 = .ok (.isub, 1) := by decide +kernel
theorem dX2_combined_56 : decode cX2_combined 56 = .ok (.iconst 2, 1) := by decide +kernel
theorem dX2_combined_57 : decode cX2_combined 57 = .ok (.idiv, 1) := by decide +kernel
theorem dX2_combined_58 : decode cX2_combined 58 = .ok (.invokevirtual 145, 3) := by decide +kernel
theorem dX2_combined_61 : decode cX2_combined 61 = .ok (.aload_n 0, 1) := by decide +kernel
theorem dX2_combined_62 : decode cX2_combined 62 = .ok (.iload_n 1, 1) := by decide +kernel
theorem dX2_combined_63 : decode cX2_combined 63 = .ok (.iconst 2, 1) := by decide +kernel
theorem dX2_combined_64 : decode cX2_combined 64 = .ok (.idiv, 1) := by decide +kernel
theorem dX2_combined_65 : decode cX2_combined 65 = .ok (.invokevirtual 145, 3) := by decide +kernel
theorem dX2_combined_68 : decode cX2_combined 68 = .ok (.ladd, 1) := by decide +kernel
theorem dX2_combined_69 : decode cX2_combined 69 = .ok (.ldc2_w 166, 3) := by decide +kernel
theorem dX2_combined_72 : decode cX2_combined 72 = .ok (.invokestatic 229, 3) := by decide +kernel
theorem dX2_combined_75 : decode cX2_combined 75 = .ok (.lreturn, 1) := by decide +kernel
theorem dX2_combined_76 : decode cX2_combined 76 = .ok (.aload_n 0, 1) := by decide +kernel
theorem dX2_combined_77 : decode cX2_combined 77 = .ok (.iconst 1, 1) := by decide +kernel
theorem dX2_combined_78 : decode cX2_combined 78 = .ok (.aload_n 0, 1) := by decide +kernel
theorem dX2_combined_79 : decode cX2_combined 79 = .ok (.getfield 101, 3) := by decide +kernel
theorem dX2_combined_82 : decode cX2_combined 82 = .ok (.invokestatic 218, 3) := by decide +kernel
theorem dX2_combined_85 : decode cX2_combined 85 = .ok (.iload_n 1, 1) := by decide +kernel
theorem dX2_combined_86 : decode cX2_combined 86 = .ok (.invokevirtual 232, 3) := by decide +kernel
theorem dX2_combined_89 : decode cX2_combined 89 = .ok (.lreturn, 1) := by decide +kernel
theorem dX2_combined_90 : decode cX2_combined 90 = .ok (.aload_n 0, 1) := by decide +kernel
theorem dX2_combined_91 : decode cX2_combined 91 = .ok (.iconst 1, 1) := by decide +kernel
theorem dX2_combined_92 : decode cX2_combined 92 = .ok (.iload_n 1, 1) := by decide +kernel
theorem dX2_combined_93 : decode cX2_combined 93 = .ok (.invokevirtual 232, 3) := by decide +kernel
theorem dX2_combined_96 : decode cX2_combined 96 = .ok (.lreturn, 1) := by decide +kernel
theorem dX2_meanOfEvery_0 : decode cX2_meanOfEvery 0 = .ok (.lconst 0, 1) := by decide +kernel
theorem dX2_meanOfEvery_1 : decode cX2_meanOfEvery 1 = .ok (.lstore_n 3, 1) := by decide +kernel
theorem dX2_meanOfEvery_2 : decode cX2_meanOfEvery 2 = .ok (.lconst 0, 1) := by decide +kernel
theorem dX2_meanOfEvery_3 : decode cX2_meanOfEvery 3 = .ok (.lstore 5, 2) := by decide +kernel
theorem dX2_meanOfEvery_5 : decode cX2_meanOfEvery 5 = .ok (.iconst 0, 1) := by decide +kernel
theorem dX2_meanOfEvery_6 : decode cX2_meanOfEvery 6 = .ok (.istore 7, 2) := by decide +kernel
theorem dX2_meanOfEvery_8 : decode cX2_meanOfEvery 8 = .ok (.iload 7, 2) := by decide +kernel
theorem dX2_meanOfEvery_10 : decode cX2_meanOfEvery 10 = .ok (.iload_n 2, 1) := by decide +kernel
theorem dX2_meanOfEvery_11 : decode cX2_meanOfEvery 11 = .ok (.if_icmp .ge 31, 3) := by decide +kernel
theorem dX2_meanOfEvery_14 : decode cX2_meanOfEvery 14 = .ok (.iload_n 1, 1) := by decide +kernel
theorem dX2_meanOfEvery_15 : decode cX2_meanOfEvery 15 = .ok (.ifCond .le 27, 3) := by decide +kernel
theorem dX2_meanOfEvery_18 : decode cX2_meanOfEvery 18 = .ok (.lload_n 3, 1) := by decide +kernel
theorem dX2_meanOfEvery_19 : decode cX2_meanOfEvery 19 = .ok (.aload_n 0, 1) := by decide +kernel
theorem dX2_meanOfEvery_20 : decode cX2_meanOfEvery 20 = .ok (.iload 7, 2) := by decide +kernel
theorem dX2_meanOfEvery_22 : decode cX2_meanOfEvery 22 = .ok (.invokevirtual 145, 3) := by decide +kernel
theorem dX2_meanOfEvery_25 : decode cX2_meanOfEvery 25 = .ok (.ladd, 1) := by decide +kernel
theorem dX2_meanOfEvery_26 : decode cX2_meanOfEvery 26 = .ok (.lstore_n 3, 1) := by decide +kernel
theorem dX2_meanOfEvery_27 : decode cX2_meanOfEvery 27 = .ok (.lload 5, 2) := by decide +kernel
theorem dX2_meanOfEvery_29 : decode cX2_meanOfEvery 29 = .ok (.lconst 1, 1) := by decide +kernel
theorem dX2_meanOfEvery_30 : decode cX2_meanOfEvery 30 = .ok (.ladd, 1) := by decide +kernel
theorem dX2_meanOfEvery_31 : decode cX2_meanOfEvery 31 = .ok (.lstore 5, 2) := by decide +kernel
theorem dX2_meanOfEvery_33 : decode cX2_meanOfEvery 33 = .ok (.iload 7, 2) := by decide +kernel
theorem dX2_meanOfEvery_35 : decode cX2_meanOfEvery 35 = .ok (.iload_n 1, 1) := by decide +kernel
theorem dX2_meanOfEvery_36 : decode cX2_meanOfEvery 36 = .ok (.iadd, 1) := by decide +kernel
theorem dX2_meanOfEvery_37 : decode cX2_meanOfEvery 37 = .ok (.istore 7, 2) := by decide +kernel
theorem dX2_meanOfEvery_39 : decode cX2_meanOfEvery 39 = .ok (.goto (-31), 3) := by decide +kernel
theorem dX2_meanOfEvery_42 : decode cX2_meanOfEvery 42 = .ok (.lload 5, 2) := by decide +kernel
theorem dX2_meanOfEvery_44 : decode cX2_meanOfEvery 44 = .ok (.lconst 0, 1) := by decide +kernel
theorem dX2_meanOfEvery_45 : decode cX2_meanOfEvery 45 = .ok (.lcmp, 1) := by decide +kernel
theorem dX2_meanOfEvery_46 : decode cX2_meanOfEvery 46 = .ok (.ifCond .le 12, 3) := by decide +kernel
theorem dX2_meanOfEvery_49 : decode cX2_meanOfEvery 49 = .ok (.lload_n 3, 1) := by decide +kernel
theorem dX2_meanOfEvery_50 : decode cX2_meanOfEvery 50 = .ok (.lload 5, 2) := by decide +kernel
theorem dX2_meanOfEvery_52 : decode cX2_meanOfEvery 52 = .ok (.invokestatic 229, 3) := by decide +kernel
theorem dX2_meanOfEvery_55 : decode cX2_meanOfEvery 55 = .ok (.goto 4, 3) := by decide +kernel
theorem dX2_meanOfEvery_58 : decode cX2_meanOfEvery 58 = .ok (.lconst 0, 1) := by decide +kernel
theorem dX2_meanOfEvery_59 : decode cX2_meanOfEvery 59 = .ok (.lreturn, 1) := by decide +kernel
theorem dX2_nextEnd_0 : decode cX2_nextEnd 0 = .ok (.aload_n 0, 1) := by decide +kernel
theorem dX2_nextEnd_1 : decode cX2_nextEnd 1 = .ok (.iload_n 1, 1) := by decide +kernel
theorem dX2_nextEnd_2 : decode cX2_nextEnd 2 = .ok (.iload_n 2, 1) := by decide +kernel
theorem dX2_nextEnd_3 : decode cX2_nextEnd 3 = .ok (.invokevirtual 141, 3) := by decide +kernel
theorem dX2_nextEnd_6 : decode cX2_nextEnd 6 = .ok (.istore_n 3, 1) := by decide +kernel
theorem dX2_nextEnd_7 : decode cX2_nextEnd 7 = .ok (.iload_n 3, 1) := by decide +kernel
theorem dX2_nextEnd_8 : decode cX2_nextEnd 8 = .ok (.ifCond .le 11, 3) := by decide +kernel
theorem dX2_nextEnd_11 : decode cX2_nextEnd 11 = .ok (.aload_n 0, 1) := by decide +kernel
theorem dX2_nextEnd_12 : decode cX2_nextEnd 12 = .ok (.iload_n 3, 1) := by decide +kernel
theorem dX2_nextEnd_13 : decode cX2_nextEnd 13 = .ok (.invokevirtual 236, 3) := by decide +kernel
theorem dX2_nextEnd_16 : decode cX2_nextEnd 16 = .ok (.goto 16, 3) := by decide +kernel
theorem dX2_nextEnd_19 : decode cX2_nextEnd 19 = .ok (.aload_n 0, 1) := by decide +kernel
theorem dX2_nextEnd_20 : decode cX2_nextEnd 20 = .ok (.getfield 23, 3) := by decide +kernel
theorem dX2_nextEnd_23 : decode cX2_nextEnd 23 = .ok (.aload_n 0, 1) := by decide +kernel
theorem dX2_nextEnd_24 : decode cX2_nextEnd 24 = .ok (.getfield 72, 3) := by decide +kernel
theorem dX2_nextEnd_27 : decode cX2_nextEnd 27 = .ok (.iload_n 1, 1) := by decide +kernel
theorem dX2_nextEnd_28 : decode cX2_nextEnd 28 = .ok (.iload_n 2, 1) := by decide +kernel
theorem dX2_nextEnd_29 : decode cX2_nextEnd 29 = .ok (.invokevirtual 130, 3) := by decide +kernel
theorem dX2_nextEnd_32 : decode cX2_nextEnd 32 = .ok (.lreturn, 1) := by decide +kernel
theorem dX2_carryOut_0 : decode cX2_carryOut 0 = .ok (.iconst 0, 1) := by decide +kernel
theorem dX2_carryOut_1 : decode cX2_carryOut 1 = .ok (.istore_n 2, 1) := by decide +kernel
theorem dX2_carryOut_2 : decode cX2_carryOut 2 = .ok (.iload_n 2, 1) := by decide +kernel
theorem dX2_carryOut_3 : decode cX2_carryOut 3 = .ok (.iload_n 1, 1) := by decide +kernel
theorem dX2_carryOut_4 : decode cX2_carryOut 4 = .ok (.if_icmp .ge 78, 3) := by decide +kernel
theorem dX2_carryOut_7 : decode cX2_carryOut 7 = .ok (.aload_n 0, 1) := by decide +kernel
theorem dX2_carryOut_8 : decode cX2_carryOut 8 = .ok (.getfield 72, 3) := by decide +kernel
theorem dX2_carryOut_11 : decode cX2_carryOut 11 = .ok (.bipush 60, 2) := by decide +kernel
theorem dX2_carryOut_13 : decode cX2_carryOut 13 = .ok (.if_icmp .ge 69, 3) := by decide +kernel
theorem dX2_carryOut_16 : decode cX2_carryOut 16 = .ok (.iconst 0, 1) := by decide +kernel
theorem dX2_carryOut_17 : decode cX2_carryOut 17 = .ok (.istore_n 3, 1) := by decide +kernel
theorem dX2_carryOut_18 : decode cX2_carryOut 18 = .ok (.iload_n 3, 1) := by decide +kernel
theorem dX2_carryOut_19 : decode cX2_carryOut 19 = .ok (.aload_n 0, 1) := by decide +kernel
theorem dX2_carryOut_20 : decode cX2_carryOut 20 = .ok (.getfield 53, 3) := by decide +kernel
theorem dX2_carryOut_23 : decode cX2_carryOut 23 = .ok (.if_icmp .ge 43, 3) := by decide +kernel
theorem dX2_carryOut_26 : decode cX2_carryOut 26 = .ok (.aload_n 0, 1) := by decide +kernel
theorem dX2_carryOut_27 : decode cX2_carryOut 27 = .ok (.iload_n 3, 1) := by decide +kernel
theorem dX2_carryOut_28 : decode cX2_carryOut 28 = .ok (.invokevirtual 125, 3) := by decide +kernel
theorem dX2_carryOut_31 : decode cX2_carryOut 31 = .ok (.ifCond .eq 29, 3) := by decide +kernel
theorem dX2_carryOut_34 : decode cX2_carryOut 34 = .ok (.aload_n 0, 1) := by decide +kernel
theorem dX2_carryOut_35 : decode cX2_carryOut 35 = .ok (.getfield 23, 3) := by decide +kernel
theorem dX2_carryOut_38 : decode cX2_carryOut 38 = .ok (.aload_n 0, 1) := by decide +kernel
theorem dX2_carryOut_39 : decode cX2_carryOut 39 = .ok (.getfield 72, 3) := by decide +kernel
theorem dX2_carryOut_42 : decode cX2_carryOut 42 = .ok (.iconst 1, 1) := by decide +kernel
theorem dX2_carryOut_43 : decode cX2_carryOut 43 = .ok (.iadd, 1) := by decide +kernel
theorem dX2_carryOut_44 : decode cX2_carryOut 44 = .ok (.iload_n 3, 1) := by decide +kernel
theorem dX2_carryOut_45 : decode cX2_carryOut 45 = .ok (.aload_n 0, 1) := by decide +kernel
theorem dX2_carryOut_46 : decode cX2_carryOut 46 = .ok (.iload_n 3, 1) := by decide +kernel
theorem dX2_carryOut_47 : decode cX2_carryOut 47 = .ok (.iconst 0, 1) := by decide +kernel
theorem dX2_carryOut_48 : decode cX2_carryOut 48 = .ok (.invokevirtual 239, 3) := by decide +kernel
theorem dX2_carryOut_51 : decode cX2_carryOut 51 = .ok (.aload_n 0, 1) := by decide +kernel
theorem dX2_carryOut_52 : decode cX2_carryOut 52 = .ok (.iload_n 3, 1) := by decide +kernel
theorem dX2_carryOut_53 : decode cX2_carryOut 53 = .ok (.iconst 1, 1) := by decide +kernel
theorem dX2_carryOut_54 : decode cX2_carryOut 54 = .ok (.invokevirtual 239, 3) := by decide +kernel
theorem dX2_carryOut_57 : decode cX2_carryOut 57 = .ok (.invokevirtual 190, 3) := by decide +kernel
theorem dX2_carryOut_60 : decode cX2_carryOut 60 = .ok (.iinc 3 1, 3) := by decide +kernel
theorem dX2_carryOut_63 : decode cX2_carryOut 63 = .ok (.goto (-45), 3) := by decide +kernel
theorem dX2_carryOut_66 : decode cX2_carryOut 66 = .ok (.aload_n 0, 1) := by decide +kernel
theorem dX2_carryOut_67 : decode cX2_carryOut 67 = .ok (.dup, 1) := by decide +kernel
theorem dX2_carryOut_68 : decode cX2_carryOut 68 = .ok (.getfield 72, 3) := by decide +kernel
theorem dX2_carryOut_71 : decode cX2_carryOut 71 = .ok (.iconst 1, 1) := by decide +kernel
theorem dX2_carryOut_72 : decode cX2_carryOut 72 = .ok (.iadd, 1) := by decide +kernel
theorem dX2_carryOut_73 : decode cX2_carryOut 73 = .ok (.putfield 72, 3) := by decide +kernel
theorem dX2_carryOut_76 : decode cX2_carryOut 76 = .ok (.iinc 2 1, 3) := by decide +kernel
theorem dX2_carryOut_79 : decode cX2_carryOut 79 = .ok (.goto (-77), 3) := by decide +kernel
theorem dX2_carryOut_82 : decode cX2_carryOut 82 = .ok (.return_, 1) := by decide +kernel
theorem dX2_carryOutUntil_0 : decode cX2_carryOutUntil 0 = .ok (.iconst 0, 1) := by decide +kernel
theorem dX2_carryOutUntil_1 : decode cX2_carryOutUntil 1 = .ok (.istore 4, 2) := by decide +kernel
theorem dX2_carryOutUntil_3 : decode cX2_carryOutUntil 3 = .ok (.iload 4, 2) := by decide +kernel
theorem dX2_carryOutUntil_5 : decode cX2_carryOutUntil 5 = .ok (.iload_n 3, 1) := by decide +kernel
theorem dX2_carryOutUntil_6 : decode cX2_carryOutUntil 6 = .ok (.if_icmp .ge 34, 3) := by decide +kernel
theorem dX2_carryOutUntil_9 : decode cX2_carryOutUntil 9 = .ok (.aload_n 0, 1) := by decide +kernel
theorem dX2_carryOutUntil_10 : decode cX2_carryOutUntil 10 = .ok (.getfield 72, 3) := by decide +kernel
theorem dX2_carryOutUntil_13 : decode cX2_carryOutUntil 13 = .ok (.bipush 60, 2) := by decide +kernel
theorem dX2_carryOutUntil_15 : decode cX2_carryOutUntil 15 = .ok (.if_icmp .ge 25, 3) := by decide +kernel
theorem dX2_carryOutUntil_18 : decode cX2_carryOutUntil 18 = .ok (.aload_n 0, 1) := by decide +kernel
theorem dX2_carryOutUntil_19 : decode cX2_carryOutUntil 19 = .ok (.iload_n 1, 1) := by decide +kernel
theorem dX2_carryOutUntil_20 : decode cX2_carryOutUntil 20 = .ok (.i2l, 1) := by decide +kernel
theorem dX2_carryOutUntil_21 : decode cX2_carryOutUntil 21 = .ok (.iload_n 2, 1) := by decide +kernel
theorem dX2_carryOutUntil_22 : decode cX2_carryOutUntil 22 = .ok (.i2l, 1) := by decide +kernel
theorem dX2_carryOutUntil_23 : decode cX2_carryOutUntil 23 = .ok (.invokevirtual 243, 3) := by decide +kernel
theorem dX2_carryOutUntil_26 : decode cX2_carryOutUntil 26 = .ok (.ifCond .ne 14, 3) := by decide +kernel
theorem dX2_carryOutUntil_29 : decode cX2_carryOutUntil 29 = .ok (.aload_n 0, 1) := by decide +kernel
theorem dX2_carryOutUntil_30 : decode cX2_carryOutUntil 30 = .ok (.iconst 1, 1) := by decide +kernel
theorem dX2_carryOutUntil_31 : decode cX2_carryOutUntil 31 = .ok (.invokevirtual 114, 3) := by decide +kernel
theorem dX2_carryOutUntil_34 : decode cX2_carryOutUntil 34 = .ok (.iinc 4 1, 3) := by decide +kernel
theorem dX2_carryOutUntil_37 : decode cX2_carryOutUntil 37 = .ok (.goto (-34), 3) := by decide +kernel
theorem dX2_carryOutUntil_40 : decode cX2_carryOutUntil 40 = .ok (.aload_n 0, 1) := by decide +kernel
theorem dX2_carryOutUntil_41 : decode cX2_carryOutUntil 41 = .ok (.iload_n 1, 1) := by decide +kernel
theorem dX2_carryOutUntil_42 : decode cX2_carryOutUntil 42 = .ok (.i2l, 1) := by decide +kernel
theorem dX2_carryOutUntil_43 : decode cX2_carryOutUntil 43 = .ok (.iload_n 2, 1) := by decide +kernel
theorem dX2_carryOutUntil_44 : decode cX2_carryOutUntil 44 = .ok (.i2l, 1) := by decide +kernel
theorem dX2_carryOutUntil_45 : decode cX2_carryOutUntil 45 = .ok (.invokevirtual 243, 3) := by decide +kernel
theorem dX2_carryOutUntil_48 : decode cX2_carryOutUntil 48 = .ok (.ifCond .eq 8, 3) := by decide +kernel
theorem dX2_carryOutUntil_51 : decode cX2_carryOutUntil 51 = .ok (.iload 4, 2) := by decide +kernel
theorem dX2_carryOutUntil_53 : decode cX2_carryOutUntil 53 = .ok (.goto 6, 3) := by decide +kernel
theorem dX2_carryOutUntil_56 : decode cX2_carryOutUntil 56 = .ok (.sipush (-1005), 3) := by decide +kernel
theorem dX2_carryOutUntil_59 : decode cX2_carryOutUntil 59 = .ok (.ireturn, 1) := by decide +kernel
theorem dX2_isWidthAtMost_0 : decode cX2_isWidthAtMost 0 = .ok (.aload_n 0, 1) := by decide +kernel
theorem dX2_isWidthAtMost_1 : decode cX2_isWidthAtMost 1 = .ok (.aload_n 0, 1) := by decide +kernel
theorem dX2_isWidthAtMost_2 : decode cX2_isWidthAtMost 2 = .ok (.getfield 72, 3) := by decide +kernel
theorem dX2_isWidthAtMost_5 : decode cX2_isWidthAtMost 5 = .ok (.invokevirtual 155, 3) := by decide +kernel
theorem dX2_isWidthAtMost_8 : decode cX2_isWidthAtMost 8 = .ok (.lload_n 3, 1) := by decide +kernel
theorem dX2_isWidthAtMost_9 : decode cX2_isWidthAtMost 9 = .ok (.lmul, 1) := by decide +kernel
theorem dX2_isWidthAtMost_10 : decode cX2_isWidthAtMost 10 = .ok (.lload_n 1, 1) := by decide +kernel
theorem dX2_isWidthAtMost_11 : decode cX2_isWidthAtMost 11 = .ok (.aload_n 0, 1) := by decide +kernel
theorem dX2_isWidthAtMost_12 : decode cX2_isWidthAtMost 12 = .ok (.getfield 83, 3) := by decide +kernel
theorem dX2_isWidthAtMost_15 : decode cX2_isWidthAtMost 15 = .ok (.i2l, 1) := by decide +kernel
theorem dX2_isWidthAtMost_16 : decode cX2_isWidthAtMost 16 = .ok (.lmul, 1) := by decide +kernel
theorem dX2_isWidthAtMost_17 : decode cX2_isWidthAtMost 17 = .ok (.lcmp, 1) := by decide +kernel
theorem dX2_isWidthAtMost_18 : decode cX2_isWidthAtMost 18 = .ok (.ifCond .gt 7, 3) := by decide +kernel
theorem dX2_isWidthAtMost_21 : decode cX2_isWidthAtMost 21 = .ok (.iconst 1, 1) := by decide +kernel
theorem dX2_isWidthAtMost_22 : decode cX2_isWidthAtMost 22 = .ok (.goto 4, 3) := by decide +kernel
theorem dX2_isWidthAtMost_25 : decode cX2_isWidthAtMost 25 = .ok (.iconst 0, 1) := by decide +kernel
theorem dX2_isWidthAtMost_26 : decode cX2_isWidthAtMost 26 = .ok (.ireturn, 1) := by decide +kernel
theorem dX2_widthInFuture_0 : decode cX2_widthInFuture 0 = .ok (.aload_n 0, 1) := by decide +kernel
theorem dX2_widthInFuture_1 : decode cX2_widthInFuture 1 = .ok (.getfield 72, 3) := by decide +kernel
theorem dX2_widthInFuture_4 : decode cX2_widthInFuture 4 = .ok (.istore_n 2, 1) := by decide +kernel
theorem dX2_widthInFuture_5 : decode cX2_widthInFuture 5 = .ok (.aload_n 0, 1) := by decide +kernel
theorem dX2_widthInFuture_6 : decode cX2_widthInFuture 6 = .ok (.iload_n 1, 1) := by decide +kernel
theorem dX2_widthInFuture_7 : decode cX2_widthInFuture 7 = .ok (.invokevirtual 114, 3) := by decide +kernel
theorem dX2_widthInFuture_10 : decode cX2_widthInFuture 10 = .ok (.aload_n 0, 1) := by decide +kernel
theorem dX2_widthInFuture_11 : decode cX2_widthInFuture 11 = .ok (.aload_n 0, 1) := by decide +kernel
theorem dX2_widthInFuture_12 : decode cX2_widthInFuture 12 = .ok (.getfield 72, 3) := by decide +kernel
theorem dX2_widthInFuture_15 : decode cX2_widthInFuture 15 = .ok (.invokevirtual 155, 3) := by decide +kernel
theorem dX2_widthInFuture_18 : decode cX2_widthInFuture 18 = .ok (.lstore_n 3, 1) := by decide +kernel
theorem dX2_widthInFuture_19 : decode cX2_widthInFuture 19 = .ok (.aload_n 0, 1) := by decide +kernel
theorem dX2_widthInFuture_20 : decode cX2_widthInFuture 20 = .ok (.iload_n 2, 1) := by decide +kernel
theorem dX2_widthInFuture_21 : decode cX2_widthInFuture 21 = .ok (.putfield 72, 3) := by decide +kernel
theorem dX2_widthInFuture_24 : decode cX2_widthInFuture 24 = .ok (.lload_n 3, 1) := by decide +kernel
theorem dX2_widthInFuture_25 : decode cX2_widthInFuture 25 = .ok (.lreturn, 1) := by decide +kernel
theorem dX3_init_0 : decode cX3_init 0 = .ok (.aload_n 0, 1) := by decide +kernel
theorem dX3_init_1 : decode cX3_init 1 = .ok (.invokespecial 1, 3) := by decide +kernel
theorem dX3_init_4 : decode cX3_init 4 = .ok (.aload_n 0, 1) := by decide +kernel
theorem dX3_init_5 : decode cX3_init 5 = .ok (.bipush 20, 2) := by decide +kernel
theorem dX3_init_7 : decode cX3_init 7 = .ok (.newarray .long, 2) := by decide +kernel
theorem dX3_init_9 : decode cX3_init 9 = .ok (.putfield 7, 3) := by decide +kernel
theorem dX3_init_12 : decode cX3_init 12 = .ok (.aload_n 0, 1) := by decide +kernel
theorem dX3_init_13 : decode cX3_init 13 = .ok (.bipush 10, 2) := by decide +kernel
theorem dX3_init_15 : decode cX3_init 15 = .ok (.newarray .int, 2) := by decide +kernel
theorem dX3_init_17 : decode cX3_init 17 = .ok (.putfield 13, 3) := by decide +kernel
theorem dX3_init_20 : decode cX3_init 20 = .ok (.aload_n 0, 1) := by decide +kernel
theorem dX3_init_21 : decode cX3_init 21 = .ok (.bipush 10, 2) := by decide +kernel
theorem dX3_init_23 : decode cX3_init 23 = .ok (.newarray .long, 2) := by decide +kernel
theorem dX3_init_25 : decode cX3_init 25 = .ok (.putfield 17, 3) := by decide +kernel
theorem dX3_init_28 : decode cX3_init 28 = .ok (.aload_n 0, 1) := by decide +kernel
theorem dX3_init_29 : decode cX3_init 29 = .ok (.bipush 100, 2) := by decide +kernel
theorem dX3_init_31 : decode cX3_init 31 = .ok (.newarray .long, 2) := by decide +kernel
theorem dX3_init_33 : decode cX3_init 33 = .ok (.putfield 20, 3) := by decide +kernel
theorem dX3_init_36 : decode cX3_init 36 = .ok (.aload_n 0, 1) := by decide +kernel
theorem dX3_init_37 : decode cX3_init 37 = .ok (.bipush 100, 2) := by decide +kernel
theorem dX3_init_39 : decode cX3_init 39 = .ok (.newarray .long, 2) := by decide +kernel
theorem dX3_init_41 : decode cX3_init 41 = .ok (.putfield 23, 3) := by decide +kernel
theorem dX3_init_44 : decode cX3_init 44 = .ok (.aload_n 0, 1) := by decide +kernel
theorem dX3_init_45 : decode cX3_init 45 = .ok (.bipush 100, 2) := by decide +kernel
theorem dX3_init_47 : decode cX3_init 47 = .ok (.newarray .int, 2) := by decide +kernel
theorem dX3_init_49 : decode cX3_init 49 = .ok (.putfield 26, 3) := by decide +kernel
theorem dX3_init_52 : decode cX3_init 52 = .ok (.aload_n 0, 1) := by decide +kernel
theorem dX3_init_53 : decode cX3_init 53 = .ok (.sipush 1220, 3) := by decide +kernel
theorem dX3_init_56 : decode cX3_init 56 = .ok (.newarray .long, 2) := by decide +kernel
theorem dX3_init_58 : decode cX3_init 58 = .ok (.putfield 29, 3) := by decide +kernel
theorem dX3_init_61 : decode cX3_init 61 = .ok (.aload_n 0, 1) := by decide +kernel
theorem dX3_init_62 : decode cX3_init 62 = .ok (.bipush 40, 2) := by decide +kernel
theorem dX3_init_64 : decode cX3_init 64 = .ok (.newarray .char, 2) := by decide +kernel
theorem dX3_init_66 : decode cX3_init 66 = .ok (.putfield 32, 3) := by decide +kernel
theorem dX3_init_69 : decode cX3_init 69 = .ok (.aload_n 0, 1) := by decide +kernel
theorem dX3_init_70 : decode cX3_init 70 = .ok (.bipush 10, 2) := by decide +kernel
theorem dX3_init_72 : decode cX3_init 72 = .ok (.newarray .long, 2) := by decide +kernel
theorem dX3_init_74 : decode cX3_init 74 = .ok (.putfield 36, 3) := by decide +kernel
theorem dX3_init_77 : decode cX3_init 77 = .ok (.aload_n 0, 1) := by decide +kernel
theorem dX3_init_78 : decode cX3_init 78 = .ok (.iconst 4, 1) := by decide +kernel
theorem dX3_init_79 : decode cX3_init 79 = .ok (.iconst 1, 1) := by decide +kernel
theorem dX3_init_80 : decode cX3_init 80 = .ok (.ldc 39, 2) := by decide +kernel
theorem dX3_init_82 : decode cX3_init 82 = .ok (.invokevirtual 40, 3) := by decide +kernel
theorem dX3_init_85 : decode cX3_init 85 = .ok (.return_, 1) := by decide +kernel
theorem dX3_within_0 : decode cX3_within 0 = .ok (.lload_n 0, 1) := by decide +kernel
theorem dX3_within_1 : decode cX3_within 1 = .ok (.lload_n 2, 1) := by decide +kernel
theorem dX3_within_2 : decode cX3_within 2 = .ok (.lcmp, 1) := by decide +kernel
theorem dX3_within_3 : decode cX3_within 3 = .ok (.ifCond .lt 14, 3) := by decide +kernel
theorem dX3_within_6 : decode cX3_within 6 = .ok (.lload_n 0, 1) := by decide +kernel
theorem dX3_within_7 : decode cX3_within 7 = .ok (.lload 4, 2) := by decide +kernel
theorem dX3_within_9 : decode cX3_within 9 = .ok (.lcmp, 1) := by decide +kernel
theorem dX3_within_10 : decode cX3_within 10 = .ok (.ifCond .gt 7, 3) := by decide +kernel
theorem dX3_within_13 : decode cX3_within 13 = .ok (.iconst 1, 1) := by decide +kernel
theorem dX3_within_14 : decode cX3_within 14 = .ok (.goto 4, 3) := by decide +kernel
theorem dX3_within_17 : decode cX3_within 17 = .ok (.iconst 0, 1) := by decide +kernel
theorem dX3_within_18 : decode cX3_within 18 = .ok (.ireturn, 1) := by decide +kernel
theorem dX3_lost_0 : decode cX3_lost 0 = .ok (.ldc2_w 44, 3) := by decide +kernel
theorem dX3_lost_3 : decode cX3_lost 3 = .ok (.lreturn, 1) := by decide +kernel
theorem dX3_common_0 : decode cX3_common 0 = .ok (.lload_n 0, 1) := by decide +kernel
theorem dX3_common_1 : decode cX3_common 1 = .ok (.lconst 0, 1) := by decide +kernel
theorem dX3_common_2 : decode cX3_common 2 = .ok (.lcmp, 1) := by decide +kernel
theorem dX3_common_3 : decode cX3_common 3 = .ok (.ifCond .ge 8, 3) := by decide +kernel
theorem dX3_common_6 : decode cX3_common 6 = .ok (.lload_n 0, 1) := by decide +kernel
theorem dX3_common_7 : decode cX3_common 7 = .ok (.lneg, 1) := by decide +kernel
theorem dX3_common_8 : decode cX3_common 8 = .ok (.goto 4, 3) := by decide +kernel
theorem dX3_common_11 : decode cX3_common 11 = .ok (.lload_n 0, 1) := by decide +kernel
theorem dX3_common_12 : decode cX3_common 12 = .ok (.lstore 4, 2) := by decide +kernel
theorem dX3_common_14 : decode cX3_common 14 = .ok (.lload_n 2, 1) := by decide +kernel
theorem dX3_common_15 : decode cX3_common 15 = .ok (.lstore 6, 2) := by decide +kernel
theorem dX3_common_17 : decode cX3_common 17 = .ok (.lload 6, 2) := by decide +kernel
theorem dX3_common_19 : decode cX3_common 19 = .ok (.lconst 0, 1) := by decide +kernel
theorem dX3_common_20 : decode cX3_common 20 = .ok (.lcmp, 1) := by decide +kernel
theorem dX3_common_21 : decode cX3_common 21 = .ok (.ifCond .eq 21, 3) := by decide +kernel
theorem dX3_common_24 : decode cX3_common 24 = .ok (.lload 4, 2) := by decide +kernel
theorem dX3_common_26 : decode cX3_common 26 = .ok (.lload 6, 2) := by decide +kernel
theorem dX3_common_28 : decode cX3_common 28 = .ok (.lrem, 1) := by decide +kernel
theorem dX3_common_29 : decode cX3_common 29 = .ok (.lstore 8, 2) := by decide +kernel
theorem dX3_common_31 : decode cX3_common 31 = .ok (.lload 6, 2) := by decide +kernel
theorem dX3_common_33 : decode cX3_common 33 = .ok (.lstore 4, 2) := by decide +kernel
theorem dX3_common_35 : decode cX3_common 35 = .ok (.lload 8, 2) := by decide +kernel
theorem dX3_common_37 : decode cX3_common 37 = .ok (.lstore 6, 2) := by decide +kernel
theorem dX3_common_39 : decode cX3_common 39 = .ok (.goto (-22), 3) := by decide +kernel
theorem dX3_common_42 : decode cX3_common 42 = .ok (.lload 4, 2) := by decide +kernel
theorem dX3_common_44 : decode cX3_common 44 = .ok (.lreturn, 1) := by decide +kernel
theorem dX3_part_0 : decode cX3_part 0 = .ok (.lload_n 0, 1) := by decide +kernel
theorem dX3_part_1 : decode cX3_part 1 = .ok (.lload_n 2, 1) := by decide +kernel
theorem dX3_part_2 : decode cX3_part 2 = .ok (.invokestatic 46, 3) := by decide +kernel
theorem dX3_part_5 : decode cX3_part 5 = .ok (.lstore 5, 2) := by decide +kernel
theorem dX3_part_7 : decode cX3_part 7 = .ok (.iload 4, 2) := by decide +kernel
theorem dX3_part_9 : decode cX3_part 9 = .ok (.ifCond .eq 10, 3) := by decide +kernel
theorem dX3_part_12 : decode cX3_part 12 = .ok (.lload_n 2, 1) := by decide +kernel
theorem dX3_part_13 : decode cX3_part 13 = .ok (.lload 5, 2) := by decide +kernel
theorem dX3_part_15 : decode cX3_part 15 = .ok (.ldiv, 1) := by decide +kernel
theorem dX3_part_16 : decode cX3_part 16 = .ok (.goto 7, 3) := by decide +kernel
theorem dX3_part_19 : decode cX3_part 19 = .ok (.lload_n 0, 1) := by decide +kernel
theorem dX3_part_20 : decode cX3_part 20 = .ok (.lload 5, 2) := by decide +kernel
theorem dX3_part_22 : decode cX3_part 22 = .ok (.ldiv, 1) := by decide +kernel
theorem dX3_part_23 : decode cX3_part 23 = .ok (.lreturn, 1) := by decide +kernel
theorem dX3_down_0 : decode cX3_down 0 = .ok (.lload_n 0, 1) := by decide +kernel
theorem dX3_down_1 : decode cX3_down 1 = .ok (.lload_n 2, 1) := by decide +kernel
theorem dX3_down_2 : decode cX3_down 2 = .ok (.ldiv, 1) := by decide +kernel
theorem dX3_down_3 : decode cX3_down 3 = .ok (.lstore 4, 2) := by decide +kernel
theorem dX3_down_5 : decode cX3_down 5 = .ok (.lload 4, 2) := by decide +kernel
theorem dX3_down_7 : decode cX3_down 7 = .ok (.lload_n 2, 1) := by decide +kernel
theorem dX3_down_8 : decode cX3_down 8 = .ok (.lmul, 1) := by decide +kernel
theorem dX3_down_9 : decode cX3_down 9 = .ok (.lload_n 0, 1) := by decide +kernel
theorem dX3_down_10 : decode cX3_down 10 = .ok (.lcmp, 1) := by decide +kernel
theorem dX3_down_11 : decode cX3_down 11 = .ok (.ifCond .le 10, 3) := by decide +kernel
theorem dX3_down_14 : decode cX3_down 14 = .ok (.lload 4, 2) := by decide +kernel
theorem dX3_down_16 : decode cX3_down 16 = .ok (.lconst 1, 1) := by decide +kernel
theorem dX3_down_17 : decode cX3_down 17 = .ok (.lsub, 1) := by decide +kernel
theorem dX3_down_18 : decode cX3_down 18 = .ok (.goto 5, 3) := by decide +kernel
theorem dX3_down_21 : decode cX3_down 21 = .ok (.lload 4, 2) := by decide +kernel
theorem dX3_down_23 : decode cX3_down 23 = .ok (.lreturn, 1) := by decide +kernel
theorem dX3_begin_0 : decode cX3_begin 0 = .ok (.aload_n 0, 1) := by decide +kernel
theorem dX3_begin_1 : decode cX3_begin 1 = .ok (.iload_n 1, 1) := by decide +kernel
theorem dX3_begin_2 : decode cX3_begin 2 = .ok (.putfield 50, 3) := by decide +kernel
theorem dX3_begin_5 : decode cX3_begin 5 = .ok (.aload_n 0, 1) := by decide +kernel
theorem dX3_begin_6 : decode cX3_begin 6 = .ok (.iload_n 2, 1) := by decide +kernel
theorem dX3_begin_7 : decode cX3_begin 7 = .ok (.putfield 54, 3) := by decide +kernel
theorem dX3_begin_10 : decode cX3_begin 10 = .ok (.aload_n 0, 1) := by decide +kernel
theorem dX3_begin_11 : decode cX3_begin 11 = .ok (.iload_n 3, 1) := by decide +kernel
theorem dX3_begin_12 : decode cX3_begin 12 = .ok (.i2l, 1) := by decide +kernel
theorem dX3_begin_13 : decode cX3_begin 13 = .ok (.putfield 57, 3) := by decide +kernel
theorem dX3_begin_16 : decode cX3_begin 16 = .ok (.aload_n 0, 1) := by decide +kernel
theorem dX3_begin_17 : decode cX3_begin 17 = .ok (.iconst 0, 1) := by decide +kernel
theorem dX3_begin_18 : decode cX3_begin 18 = .ok (.putfield 61, 3) := by decide +kernel
theorem dX3_begin_21 : decode cX3_begin 21 = .ok (.aload_n 0, 1) := by decide +kernel
theorem dX3_begin_22 : decode cX3_begin 22 = .ok (.iconst 0, 1) := by decide +kernel
theorem dX3_begin_23 : decode cX3_begin 23 = .ok (.putfield 64, 3) := by decide +kernel
theorem dX3_begin_26 : decode cX3_begin 26 = .ok (.iconst 0, 1) := by decide +kernel
theorem dX3_begin_27 : decode cX3_begin 27 = .ok (.istore 4, 2) := by decide +kernel
theorem dX3_begin_29 : decode cX3_begin 29 = .ok (.iload 4, 2) := by decide +kernel
theorem dX3_begin_31 : decode cX3_begin 31 = .ok (.bipush 20, 2) := by decide +kernel
theorem dX3_begin_33 : decode cX3_begin 33 = .ok (.if_icmp .ge 25, 3) := by decide +kernel
theorem dX3_begin_36 : decode cX3_begin 36 = .ok (.aload_n 0, 1) := by decide +kernel
theorem dX3_begin_37 : decode cX3_begin 37 = .ok (.getfield 7, 3) := by decide +kernel
theorem dX3_begin_40 : decode cX3_begin 40 = .ok (.iload 4, 2) := by decide +kernel
theorem dX3_begin_42 : decode cX3_begin 42 = .ok (.lconst 0, 1) := by decide +kernel
theorem dX3_begin_43 : decode cX3_begin 43 = .ok (.lastore, 1) := by decide +kernel
theorem dX3_begin_44 : decode cX3_begin 44 = .ok (.aload_n 0, 1) := by decide +kernel
theorem dX3_begin_45 : decode cX3_begin 45 = .ok (.getfield 29, 3) := by decide +kernel
theorem dX3_begin_48 : decode cX3_begin 48 = .ok (.iload 4, 2) := by decide +kernel
theorem dX3_begin_50 : decode cX3_begin 50 = .ok (.lconst 0, 1) := by decide +kernel
theorem dX3_begin_51 : decode cX3_begin 51 = .ok (.lastore, 1) := by decide +kernel
theorem dX3_begin_52 : decode cX3_begin 52 = .ok (.iinc 4 1, 3) := by decide +kernel
theorem dX3_begin_55 : decode cX3_begin 55 = .ok (.goto (-26), 3) := by decide +kernel
theorem dX3_begin_58 : decode cX3_begin 58 = .ok (.iconst 0, 1) := by decide +kernel
theorem dX3_begin_59 : decode cX3_begin 59 = .ok (.istore 4, 2) := by decide +kernel
theorem dX3_begin_61 : decode cX3_begin 61 = .ok (.iload 4, 2) := by decide +kernel
theorem dX3_begin_63 : decode cX3_begin 63 = .ok (.bipush 10, 2) := by decide +kernel
theorem dX3_begin_65 : decode cX3_begin 65 = .ok (.if_icmp .ge 25, 3) := by decide +kernel
theorem dX3_begin_68 : decode cX3_begin 68 = .ok (.aload_n 0, 1) := by decide +kernel
theorem dX3_begin_69 : decode cX3_begin 69 = .ok (.getfield 13, 3) := by decide +kernel
theorem dX3_begin_72 : decode cX3_begin 72 = .ok (.iload 4, 2) := by decide +kernel
theorem dX3_begin_74 : decode cX3_begin 74 = .ok (.iconst 0, 1) := by decide +kernel
theorem dX3_begin_75 : decode cX3_begin 75 = .ok (.iastore, 1) := by decide +kernel
theorem dX3_begin_76 : decode cX3_begin 76 = .ok (.aload_n 0, 1) := by decide +kernel
theorem dX3_begin_77 : decode cX3_begin 77 = .ok (.getfield 17, 3) := by decide +kernel
theorem dX3_begin_80 : decode cX3_begin 80 = .ok (.iload 4, 2) := by decide +kernel
theorem dX3_begin_82 : decode cX3_begin 82 = .ok (.lconst 0, 1) := by decide +kernel
theorem dX3_begin_83 : decode cX3_begin 83 = .ok (.lastore, 1) := by decide +kernel
theorem dX3_begin_84 : decode cX3_begin 84 = .ok (.iinc 4 1, 3) := by decide +kernel
theorem dX3_begin_87 : decode cX3_begin 87 = .ok (.goto (-26), 3) := by decide +kernel
theorem dX3_begin_90 : decode cX3_begin 90 = .ok (.iconst 0, 1) := by decide +kernel
theorem dX3_begin_91 : decode cX3_begin 91 = .ok (.istore 4, 2) := by decide +kernel
theorem dX3_begin_93 : decode cX3_begin 93 = .ok (.iload 4, 2) := by decide +kernel
theorem dX3_begin_95 : decode cX3_begin 95 = .ok (.bipush 100, 2) := by decide +kernel
theorem dX3_begin_97 : decode cX3_begin 97 = .ok (.if_icmp .ge 33, 3) := by decide +kernel
theorem dX3_begin_100 : decode cX3_begin 100 = .ok (.aload_n 0, 1) := by decide +kernel
theorem dX3_begin_101 : decode cX3_begin 101 = .ok (.getfield 20, 3) := by decide +kernel
theorem dX3_begin_104 : decode cX3_begin 104 = .ok (.iload 4, 2) := by decide +kernel
theorem dX3_begin_106 : decode cX3_begin 106 = .ok (.lconst 0, 1) := by decide +kernel
theorem dX3_begin_107 : decode cX3_begin 107 = .ok (.lastore, 1) := by decide +kernel
theorem dX3_begin_108 : decode cX3_begin 108 = .ok (.aload_n 0, 1) := by decide +kernel
theorem dX3_begin_109 : decode cX3_begin 109 = .ok (.getfield 23, 3) := by decide +kernel
theorem dX3_begin_112 : decode cX3_begin 112 = .ok (.iload 4, 2) := by decide +kernel
theorem dX3_begin_114 : decode cX3_begin 114 = .ok (.lconst 0, 1) := by decide +kernel
theorem dX3_begin_115 : decode cX3_begin 115 = .ok (.lastore, 1) := by decide +kernel
theorem dX3_begin_116 : decode cX3_begin 116 = .ok (.aload_n 0, 1) := by decide +kernel
theorem dX3_begin_117 : decode cX3_begin 117 = .ok (.getfield 26, 3) := by decide +kernel
theorem dX3_begin_120 : decode cX3_begin 120 = .ok (.iload 4, 2) := by decide +kernel
theorem dX3_begin_122 : decode cX3_begin 122 = .ok (.iconst 0, 1) := by decide +kernel
theorem dX3_begin_123 : decode cX3_begin 123 = .ok (.iastore, 1) := by decide +kernel
theorem dX3_begin_124 : decode cX3_begin 124 = .ok (.iinc 4 1, 3) := by decide +kernel
theorem dX3_begin_127 : decode cX3_begin 127 = .ok (.goto (-34), 3) := by decide +kernel
theorem dX3_begin_130 : decode cX3_begin 130 = .ok (.return_, 1) := by decide +kernel
theorem dX3_reset_0 : decode cX3_reset 0 = .ok (.iload_n 1, 1) := by decide +kernel
theorem dX3_reset_1 : decode cX3_reset 1 = .ok (.i2l, 1) := by decide +kernel
theorem dX3_reset_2 : decode cX3_reset 2 = .ok (.ldc2_w 67, 3) := by decide +kernel
theorem dX3_reset_5 : decode cX3_reset 5 = .ok (.ldc2_w 69, 3) := by decide +kernel
theorem dX3_reset_8 : decode cX3_reset 8 = .ok (.invokestatic 71, 3) := by decide +kernel
theorem dX3_reset_11 : decode cX3_reset 11 = .ok (.ifCond .eq 27, 3) := by decide +kernel
theorem dX3_reset_14 : decode cX3_reset 14 = .ok (.iload_n 2, 1) := by decide +kernel
theorem dX3_reset_15 : decode cX3_reset 15 = .ok (.i2l, 1) := by decide +kernel
theorem dX3_reset_16 : decode cX3_reset 16 = .ok (.lconst 0, 1) := by decide +kernel
theorem dX3_reset_17 : decode cX3_reset 17 = .ok (.ldc2_w 75, 3) := by decide +kernel
theorem dX3_reset_20 : decode cX3_reset 20 = .ok (.invokestatic 71, 3) := by decide +kernel
theorem dX3_reset_23 : decode cX3_reset 23 = .ok (.ifCond .eq 15, 3) := by decide +kernel
theorem dX3_reset_26 : decode cX3_reset 26 = .ok (.iload_n 3, 1) := by decide +kernel
theorem dX3_reset_27 : decode cX3_reset 27 = .ok (.i2l, 1) := by decide +kernel
theorem dX3_reset_28 : decode cX3_reset 28 = .ok (.lconst 1, 1) := by decide +kernel
theorem dX3_reset_29 : decode cX3_reset 29 = .ok (.ldc2_w 77, 3) := by decide +kernel
theorem dX3_reset_32 : decode cX3_reset 32 = .ok (.invokestatic 71, 3) := by decide +kernel
theorem dX3_reset_35 : decode cX3_reset 35 = .ok (.ifCond .ne 7, 3) := by decide +kernel
theorem dX3_reset_38 : decode cX3_reset 38 = .ok (.sipush (-1002), 3) := by decide +kernel
theorem dX3_reset_41 : decode cX3_reset 41 = .ok (.ireturn, 1) := by decide +kernel
theorem dX3_reset_42 : decode cX3_reset 42 = .ok (.aload_n 0, 1) := by decide +kernel
theorem dX3_reset_43 : decode cX3_reset 43 = .ok (.getfield 50, 3) := by decide +kernel
theorem dX3_reset_46 : decode cX3_reset 46 = .ok (.istore 4, 2) := by decide +kernel
theorem dX3_reset_48 : decode cX3_reset 48 = .ok (.aload_n 0, 1) := by decide +kernel
theorem dX3_reset_49 : decode cX3_reset 49 = .ok (.iload_n 1, 1) := by decide +kernel
theorem dX3_reset_50 : decode cX3_reset 50 = .ok (.iload_n 2, 1) := by decide +kernel
theorem dX3_reset_51 : decode cX3_reset 51 = .ok (.iload_n 3, 1) := by decide +kernel
theorem dX3_reset_52 : decode cX3_reset 52 = .ok (.invokevirtual 40, 3) := by decide +kernel
theorem dX3_reset_55 : decode cX3_reset 55 = .ok (.iload 4, 2) := by decide +kernel
theorem dX3_reset_57 : decode cX3_reset 57 = .ok (.ireturn, 1) := by decide +kernel
theorem dX3_noNode_0 : decode cX3_noNode 0 = .ok (.iload_n 1, 1) := by decide +kernel
theorem dX3_noNode_1 : decode cX3_noNode 1 = .ok (.i2l, 1) := by decide +kernel
theorem dX3_noNode_2 : decode cX3_noNode 2 = .ok (.lconst 0, 1) := by decide +kernel
theorem dX3_noNode_3 : decode cX3_noNode 3 = .ok (.aload_n 0, 1) := by decide +kernel
theorem dX3_noNode_4 : decode cX3_noNode 4 = .ok (.getfield 50, 3) := by decide +kernel
theorem dX3_noNode_7 : decode cX3_noNode 7 = .ok (.iconst 1, 1) := by decide +kernel
theorem dX3_noNode_8 : decode cX3_noNode 8 = .ok (.isub, 1) := by decide +kernel
theorem dX3_noNode_9 : decode cX3_noNode 9 = .ok (.i2l, 1) := by decide +kernel
theorem dX3_noNode_10 : decode cX3_noNode 10 = .ok (.invokestatic 71, 3) := by decide +kernel
theorem dX3_noNode_13 : decode cX3_noNode 13 = .ok (.ifCond .ne 7, 3) := by decide +kernel
theorem dX3_noNode_16 : decode cX3_noNode 16 = .ok (.iconst 1, 1) := by decide +kernel
theorem dX3_noNode_17 : decode cX3_noNode 17 = .ok (.goto 4, 3) := by decide +kernel
theorem dX3_noNode_20 : decode cX3_noNode 20 = .ok (.iconst 0, 1) := by decide +kernel
theorem dX3_noNode_21 : decode cX3_noNode 21 = .ok (.ireturn, 1) := by decide +kernel
theorem dX3_isCorrect_0 : decode cX3_isCorrect 0 = .ok (.aload_n 0, 1) := by decide +kernel
theorem dX3_isCorrect_1 : decode cX3_isCorrect 1 = .ok (.getfield 13, 3) := by decide +kernel
theorem dX3_isCorrect_4 : decode cX3_isCorrect 4 = .ok (.iload_n 1, 1) := by decide +kernel
theorem dX3_isCorrect_5 : decode cX3_isCorrect 5 = .ok (.iaload, 1) := by decide +kernel
theorem dX3_isCorrect_6 : decode cX3_isCorrect 6 = .ok (.ifCond .ne 7, 3) := by decide +kernel
theorem dX3_isCorrect_9 : decode cX3_isCorrect 9 = .ok (.iconst 1, 1) := by decide +kernel
theorem dX3_isCorrect_10 : decode cX3_isCorrect 10 = .ok (.goto 4, 3) := by decide +kernel
theorem dX3_isCorrect_13 : decode cX3_isCorrect 13 = .ok (.iconst 0, 1) := by decide +kernel
theorem dX3_isCorrect_14 : decode cX3_isCorrect 14 = .ok (.ireturn, 1) := by decide +kernel
theorem dX3_type_0 : decode cX3_type 0 = .ok (.aload_n 0, 1) := by decide +kernel
theorem dX3_type_1 : decode cX3_type 1 = .ok (.getfield 79, 3) := by decide +kernel
theorem dX3_type_4 : decode cX3_type 4 = .ok (.bipush 40, 2) := by decide +kernel
theorem dX3_type_6 : decode cX3_type 6 = .ok (.if_icmp .ne 7, 3) := by decide +kernel
theorem dX3_type_9 : decode cX3_type 9 = .ok (.sipush (-1004), 3) := by decide +kernel
theorem dX3_type_12 : decode cX3_type 12 = .ok (.ireturn, 1) := by decide +kernel
theorem dX3_type_13 : decode cX3_type 13 = .ok (.aload_n 0, 1) := by decide +kernel
theorem dX3_type_14 : decode cX3_type 14 = .ok (.getfield 32, 3) := by decide +kernel
theorem dX3_type_17 : decode cX3_type 17 = .ok (.aload_n 0, 1) := by decide +kernel
theorem dX3_type_18 : decode cX3_type 18 = .ok (.getfield 79, 3) := by decide +kernel
theorem dX3_type_21 : decode cX3_type 21 = .ok (.iload_n 1, 1) := by decide +kernel
theorem dX3_type_22 : decode cX3_type 22 = .ok (.castore, 1) := by decide +kernel
theorem dX3_type_23 : decode cX3_type 23 = .ok (.aload_n 0, 1) := by decide +kernel
theorem dX3_type_24 : decode cX3_type 24 = .ok (.dup, 1) := by decide +kernel
theorem dX3_type_25 : decode cX3_type 25 = .ok (.getfield 79, 3) := by decide +kernel
theorem dX3_type_28 : decode cX3_type 28 = .ok (.iconst 1, 1) := by decide +kernel
theorem dX3_type_29 : decode cX3_type 29 = .ok (.iadd, 1) := by decide +kernel
theorem dX3_type_30 : decode cX3_type 30 = .ok (.putfield 79, 3) := by decide +kernel
theorem dX3_type_33 : decode cX3_type 33 = .ok (.aload_n 0, 1) := by decide +kernel
theorem dX3_type_34 : decode cX3_type 34 = .ok (.getfield 79, 3) := by decide +kernel
theorem dX3_type_37 : decode cX3_type 37 = .ok (.ireturn, 1) := by decide +kernel
theorem dX3_clearText_0 : decode cX3_clearText 0 = .ok (.aload_n 0, 1) := by decide +kernel
theorem dX3_clearText_1 : decode cX3_clearText 1 = .ok (.getfield 79, 3) := by decide +kernel
theorem dX3_clearText_4 : decode cX3_clearText 4 = .ok (.istore_n 1, 1) := by decide +kernel
theorem dX3_clearText_5 : decode cX3_clearText 5 = .ok (.aload_n 0, 1) := by decide +kernel
theorem dX3_clearText_6 : decode cX3_clearText 6 = .ok (.iconst 0, 1) := by decide +kernel
theorem dX3_clearText_7 : decode cX3_clearText 7 = .ok (.putfield 79, 3) := by decide +kernel
theorem dX3_clearText_10 : decode cX3_clearText 10 = .ok (.iload_n 1, 1) := by decide +kernel
theorem dX3_clearText_11 : decode cX3_clearText 11 = .ok (.ireturn, 1) := by decide +kernel
theorem dX3_isAt_0 : decode cX3_isAt 0 = .ok (.aload_n 0, 1) := by decide +kernel
theorem dX3_isAt_1 : decode cX3_isAt 1 = .ok (.getfield 82, 3) := by decide +kernel
theorem dX3_isAt_4 : decode cX3_isAt 4 = .ok (.aload_n 0, 1) := by decide +kernel
theorem dX3_isAt_5 : decode cX3_isAt 5 = .ok (.getfield 79, 3) := by decide +kernel
theorem dX3_isAt_8 : decode cX3_isAt 8 = .ok (.if_icmp .ge 20, 3) := by decide +kernel
theorem dX3_isAt_11 : decode cX3_isAt 11 = .ok (.aload_n 0, 1) := by decide +kernel
theorem dX3_isAt_12 : decode cX3_isAt 12 = .ok (.getfield 32, 3) := by decide +kernel
theorem dX3_isAt_15 : decode cX3_isAt 15 = .ok (.aload_n 0, 1) := by decide +kernel
theorem dX3_isAt_16 : decode cX3_isAt 16 = .ok (.getfield 82, 3) := by decide +kernel
theorem dX3_isAt_19 : decode cX3_isAt 19 = .ok (.caload, 1) := by decide +kernel
theorem dX3_isAt_20 : decode cX3_isAt 20 = .ok (.iload_n 1, 1) := by decide +kernel
theorem dX3_isAt_21 : decode cX3_isAt 21 = .ok (.if_icmp .ne 7, 3) := by decide +kernel
theorem dX3_isAt_24 : decode cX3_isAt 24 = .ok (.iconst 1, 1) := by decide +kernel
theorem dX3_isAt_25 : decode cX3_isAt 25 = .ok (.goto 4, 3) := by decide +kernel
theorem dX3_isAt_28 : decode cX3_isAt 28 = .ok (.iconst 0, 1) := by decide +kernel
theorem dX3_isAt_29 : decode cX3_isAt 29 = .ok (.ireturn, 1) := by decide +kernel
theorem dX3_isDigit_0 : decode cX3_isDigit 0 = .ok (.aload_n 0, 1) := by decide +kernel
theorem dX3_isDigit_1 : decode cX3_isDigit 1 = .ok (.getfield 82, 3) := by decide +kernel
theorem dX3_isDigit_4 : decode cX3_isDigit 4 = .ok (.aload_n 0, 1) := by decide +kernel
theorem dX3_isDigit_5 : decode cX3_isDigit 5 = .ok (.getfield 79, 3) := by decide +kernel
theorem dX3_isDigit_8 : decode cX3_isDigit 8 = .ok (.if_icmp .ge 35, 3) := by decide +kernel
theorem dX3_isDigit_11 : decode cX3_isDigit 11 = .ok (.aload_n 0, 1) := by decide +kernel
theorem dX3_isDigit_12 : decode cX3_isDigit 12 = .ok (.getfield 32, 3) := by decide +kernel
theorem dX3_isDigit_15 : decode cX3_isDigit 15 = .ok (.aload_n 0, 1) := by decide +kernel
theorem dX3_isDigit_16 : decode cX3_isDigit 16 = .ok (.getfield 82, 3) := by decide +kernel
theorem dX3_isDigit_19 : decode cX3_isDigit 19 = .ok (.caload, 1) := by decide +kernel
theorem dX3_isDigit_20 : decode cX3_isDigit 20 = .ok (.bipush 48, 2) := by decide +kernel
theorem dX3_isDigit_22 : decode cX3_isDigit 22 = .ok (.if_icmp .lt 21, 3) := by decide +kernel
theorem dX3_isDigit_25 : decode cX3_isDigit 25 = .ok (.aload_n 0, 1) := by decide +kernel
theorem dX3_isDigit_26 : decode cX3_isDigit 26 = .ok (.getfield 32, 3) := by decide +kernel
theorem dX3_isDigit_29 : decode cX3_isDigit 29 = .ok (.aload_n 0, 1) := by decide +kernel
theorem dX3_isDigit_30 : decode cX3_isDigit 30 = .ok (.getfield 82, 3) := by decide +kernel
theorem dX3_isDigit_33 : decode cX3_isDigit 33 = .ok (.caload, 1) := by decide +kernel
theorem dX3_isDigit_34 : decode cX3_isDigit 34 = .ok (.bipush 57, 2) := by decide +kernel
theorem dX3_isDigit_36 : decode cX3_isDigit 36 = .ok (.if_icmp .gt 7, 3) := by decide +kernel
theorem dX3_isDigit_39 : decode cX3_isDigit 39 = .ok (.iconst 1, 1) := by decide +kernel
theorem dX3_isDigit_40 : decode cX3_isDigit 40 = .ok (.goto 4, 3) := by decide +kernel
theorem dX3_isDigit_43 : decode cX3_isDigit 43 = .ok (.iconst 0, 1) := by decide +kernel
theorem dX3_isDigit_44 : decode cX3_isDigit 44 = .ok (.ireturn, 1) := by decide +kernel
theorem dX3_readDigits_0 : decode cX3_readDigits 0 = .ok (.lconst 0, 1) := by decide +kernel
theorem dX3_readDigits_1 : decode cX3_readDigits 1 = .ok (.lstore_n 1, 1) := by decide +kernel
theorem dX3_readDigits_2 : decode cX3_readDigits 2 = .ok (.iconst 0, 1) := by decide +kernel
theorem dX3_readDigits_3 : decode cX3_readDigits 3 = .ok (.istore_n 3, 1) := by decide +kernel
theorem dX3_readDigits_4 : decode cX3_readDigits 4 = .ok (.iload_n 3, 1) := by decide +kernel
theorem dX3_readDigits_5 : decode cX3_readDigits 5 = .ok (.bipush 6, 2) := by decide +kernel
theorem dX3_readDigits_7 : decode cX3_readDigits 7 = .ok (.if_icmp .ge 47, 3) := by decide +kernel
theorem dX3_readDigits_10 : decode cX3_readDigits 10 = .ok (.aload_n 0, 1) := by decide +kernel
theorem dX3_readDigits_11 : decode cX3_readDigits 11 = .ok (.invokevirtual 85, 3) := by decide +kernel
theorem dX3_readDigits_14 : decode cX3_readDigits 14 = .ok (.ifCond .eq 40, 3) := by decide +kernel
theorem dX3_readDigits_17 : decode cX3_readDigits 17 = .ok (.ldc2_w 69, 3) := by decide +kernel
theorem dX3_readDigits_20 : decode cX3_readDigits 20 = .ok (.lload_n 1, 1) := by decide +kernel
theorem dX3_readDigits_21 : decode cX3_readDigits 21 = .ok (.lmul, 1) := by decide +kernel
theorem dX3_readDigits_22 : decode cX3_readDigits 22 = .ok (.aload_n 0, 1) := by decide +kernel
theorem dX3_readDigits_23 : decode cX3_readDigits 23 = .ok (.getfield 32, 3) := by decide +kernel
theorem dX3_readDigits_26 : decode cX3_readDigits 26 = .ok (.aload_n 0, 1) := by decide +kernel
theorem dX3_readDigits_27 : decode cX3_readDigits 27 = .ok (.getfield 82, 3) := by decide +kernel
theorem dX3_readDigits_30 : decode cX3_readDigits 30 = .ok (.caload, 1) := by decide +kernel
theorem dX3_readDigits_31 : decode cX3_readDigits 31 = .ok (.i2l, 1) := by decide +kernel
theorem dX3_readDigits_32 : decode cX3_readDigits 32 = .ok (.ladd, 1) := by decide +kernel
theorem dX3_readDigits_33 : decode cX3_readDigits 33 = .ok (.ldc2_w 89, 3) := by decide +kernel
theorem dX3_readDigits_36 : decode cX3_readDigits 36 = .ok (.lsub, 1) := by decide +kernel
theorem dX3_readDigits_37 : decode cX3_readDigits 37 = .ok (.lstore_n 1, 1) := by decide +kernel
theorem dX3_readDigits_38 : decode cX3_readDigits 38 = .ok (.aload_n 0, 1) := by decide +kernel
theorem dX3_readDigits_39 : decode cX3_readDigits 39 = .ok (.dup, 1) := by decide +kernel
theorem dX3_readDigits_40 : decode cX3_readDigits 40 = .ok (.getfield 82, 3) := by decide +kernel
theorem dX3_readDigits_43 : decode cX3_readDigits 43 = .ok (.iconst 1, 1) := by decide +kernel
theorem dX3_readDigits_44 : decode cX3_readDigits 44 = .ok (.iadd, 1) := by decide +kernel
theorem dX3_readDigits_45 : decode cX3_readDigits 45 = .ok (.putfield 82, 3) := by decide +kernel
theorem dX3_readDigits_48 : decode cX3_readDigits 48 = .ok (.iinc 3 1, 3) := by decide +kernel
theorem dX3_readDigits_51 : decode cX3_readDigits 51 = .ok (.goto (-47), 3) := by decide +kernel
theorem dX3_readDigits_54 : decode cX3_readDigits 54 = .ok (.aload_n 0, 1) := by decide +kernel
theorem dX3_readDigits_55 : decode cX3_readDigits 55 = .ok (.iload_n 3, 1) := by decide +kernel
theorem dX3_readDigits_56 : decode cX3_readDigits 56 = .ok (.ifCond .le 14, 3) := by decide +kernel
theorem dX3_readDigits_59 : decode cX3_readDigits 59 = .ok (.aload_n 0, 1) := by decide +kernel
theorem dX3_readDigits_60 : decode cX3_readDigits 60 = .ok (.invokevirtual 85, 3) := by decide +kernel
theorem dX3_readDigits_63 : decode cX3_readDigits 63 = .ok (.ifCond .ne 7, 3) := by decide +kernel
theorem dX3_readDigits_66 : decode cX3_readDigits 66 = .ok (.iconst 1, 1) := by decide +kernel
theorem dX3_readDigits_67 : decode cX3_readDigits 67 = .ok (.goto 4, 3) := by decide +kernel
theorem dX3_readDigits_70 : decode cX3_readDigits 70 = .ok (.iconst 0, 1) := by decide +kernel
theorem dX3_readDigits_71 : decode cX3_readDigits 71 = .ok (.putfield 91, 3) := by decide +kernel
theorem dX3_readDigits_74 : decode cX3_readDigits 74 = .ok (.lload_n 1, 1) := by decide +kernel
theorem dX3_readDigits_75 : decode cX3_readDigits 75 = .ok (.lreturn, 1) := by decide +kernel
theorem dX3_readNumber_0 : decode cX3_readNumber 0 = .ok (.aload_n 0, 1) := by decide +kernel
theorem dX3_readNumber_1 : decode cX3_readNumber 1 = .ok (.getfield 82, 3) := by decide +kernel
theorem dX3_readNumber_4 : decode cX3_readNumber 4 = .ok (.istore_n 3, 1) := by decide +kernel
theorem dX3_readNumber_5 : decode cX3_readNumber 5 = .ok (.aload_n 0, 1) := by decide +kernel
theorem dX3_readNumber_6 : decode cX3_readNumber 6 = .ok (.bipush 45, 2) := by decide +kernel
theorem dX3_readNumber_8 : decode cX3_readNumber 8 = .ok (.invokevirtual 95, 3) := by decide +kernel
theorem dX3_readNumber_11 : decode cX3_readNumber 11 = .ok (.istore 4, 2) := by decide +kernel
theorem dX3_readNumber_13 : decode cX3_readNumber 13 = .ok (.aload_n 0, 1) := by decide +kernel
theorem dX3_readNumber_14 : decode cX3_readNumber 14 = .ok (.dup, 1) := by decide +kernel
theorem dX3_readNumber_15 : decode cX3_readNumber 15 = .ok (.getfield 82, 3) := by decide +kernel
theorem dX3_readNumber_18 : decode cX3_readNumber 18 = .ok (.iload 4, 2) := by decide +kernel
theorem dX3_readNumber_20 : decode cX3_readNumber 20 = .ok (.ifCond .eq 7, 3) := by decide +kernel
theorem dX3_readNumber_23 : decode cX3_readNumber 23 = .ok (.iconst 1, 1) := by decide +kernel
theorem dX3_readNumber_24 : decode cX3_readNumber 24 = .ok (.goto 4, 3) := by decide +kernel
theorem dX3_readNumber_27 : decode cX3_readNumber 27 = .ok (.iconst 0, 1) := by decide +kernel
theorem dX3_readNumber_28 : decode cX3_readNumber 28 = .ok (.iadd, 1) := by decide +kernel
theorem dX3_readNumber_29 : decode cX3_readNumber 29 = .ok (.putfield 82, 3) := by decide +kernel
theorem dX3_readNumber_32 : decode cX3_readNumber 32 = .ok (.aload_n 0, 1) := by decide +kernel
theorem dX3_readNumber_33 : decode cX3_readNumber 33 = .ok (.invokevirtual 99, 3) := by decide +kernel
theorem dX3_readNumber_36 : decode cX3_readNumber 36 = .ok (.lstore 5, 2) := by decide +kernel
theorem dX3_readNumber_38 : decode cX3_readNumber 38 = .ok (.lconst 1, 1) := by decide +kernel
theorem dX3_readNumber_39 : decode cX3_readNumber 39 = .ok (.lstore 7, 2) := by decide +kernel
theorem dX3_readNumber_41 : decode cX3_readNumber 41 = .ok (.aload_n 0, 1) := by decide +kernel
theorem dX3_readNumber_42 : decode cX3_readNumber 42 = .ok (.getfield 91, 3) := by decide +kernel
theorem dX3_readNumber_45 : decode cX3_readNumber 45 = .ok (.ifCond .eq 28, 3) := by decide +kernel
theorem dX3_readNumber_48 : decode cX3_readNumber 48 = .ok (.aload_n 0, 1) := by decide +kernel
theorem dX3_readNumber_49 : decode cX3_readNumber 49 = .ok (.bipush 47, 2) := by decide +kernel
theorem dX3_readNumber_51 : decode cX3_readNumber 51 = .ok (.invokevirtual 95, 3) := by decide +kernel
theorem dX3_readNumber_54 : decode cX3_readNumber 54 = .ok (.ifCond .eq 19, 3) := by decide +kernel
theorem dX3_readNumber_57 : decode cX3_readNumber 57 = .ok (.aload_n 0, 1) := by decide +kernel
theorem dX3_readNumber_58 : decode cX3_readNumber 58 = .ok (.dup, 1) := by decide +kernel
theorem dX3_readNumber_59 : decode cX3_readNumber 59 = .ok (.getfield 82, 3) := by decide +kernel
theorem dX3_readNumber_62 : decode cX3_readNumber 62 = .ok (.iconst 1, 1) := by decide +kernel
theorem dX3_readNumber_63 : decode cX3_readNumber 63 = .ok (.iadd, 1) := by decide +kernel
theorem dX3_readNumber_64 : decode cX3_readNumber 64 = .ok (.putfield 82, 3) := by decide +kernel
theorem dX3_readNumber_67 : decode cX3_readNumber 67 = .ok (.aload_n 0, 1) := by decide +kernel
theorem dX3_readNumber_68 : decode cX3_readNumber 68 = .ok (.invokevirtual 99, 3) := by decide +kernel
theorem dX3_readNumber_71 : decode cX3_readNumber 71 = .ok (.lstore 7, 2) := by decide +kernel
theorem dX3_readNumber_73 : decode cX3_readNumber 73 = .ok (.aload_n 0, 1) := by decide +kernel
theorem dX3_readNumber_74 : decode cX3_readNumber 74 = .ok (.getfield 91, 3) := by decide +kernel
theorem dX3_readNumber_77 : decode cX3_readNumber 77 = .ok (.ifCond .ne 5, 3) := by decide +kernel
theorem dX3_readNumber_80 : decode cX3_readNumber 80 = .ok (.lconst 0, 1) := by decide +kernel
theorem dX3_readNumber_81 : decode cX3_readNumber 81 = .ok (.lreturn, 1) := by decide +kernel
theorem dX3_readNumber_82 : decode cX3_readNumber 82 = .ok (.lload 7, 2) := by decide +kernel
theorem dX3_readNumber_84 : decode cX3_readNumber 84 = .ok (.lconst 0, 1) := by decide +kernel
theorem dX3_readNumber_85 : decode cX3_readNumber 85 = .ok (.lcmp, 1) := by decide +kernel
theorem dX3_readNumber_86 : decode cX3_readNumber 86 = .ok (.ifCond .le 34, 3) := by decide +kernel
theorem dX3_readNumber_89 : decode cX3_readNumber 89 = .ok (.lload 5, 2) := by decide +kernel
theorem dX3_readNumber_91 : decode cX3_readNumber 91 = .ok (.ldc2_w 103, 3) := by decide +kernel
theorem dX3_readNumber_94 : decode cX3_readNumber 94 = .ok (.lload 7, 2) := by decide +kernel
theorem dX3_readNumber_96 : decode cX3_readNumber 96 = .ok (.lmul, 1) := by decide +kernel
theorem dX3_readNumber_97 : decode cX3_readNumber 97 = .ok (.lcmp, 1) := by decide +kernel
theorem dX3_readNumber_98 : decode cX3_readNumber 98 = .ok (.ifCond .gt 22, 3) := by decide +kernel
theorem dX3_readNumber_101 : decode cX3_readNumber 101 = .ok (.lload 5, 2) := by decide +kernel
theorem dX3_readNumber_103 : decode cX3_readNumber 103 = .ok (.aload_n 0, 1) := by decide +kernel
theorem dX3_readNumber_104 : decode cX3_readNumber 104 = .ok (.getfield 57, 3) := by decide +kernel
theorem dX3_readNumber_107 : decode cX3_readNumber 107 = .ok (.lmul, 1) := by decide +kernel
theorem dX3_readNumber_108 : decode cX3_readNumber 108 = .ok (.lload 7, 2) := by decide +kernel
theorem dX3_readNumber_110 : decode cX3_readNumber 110 = .ok (.lrem, 1) := by decide +kernel
theorem dX3_readNumber_111 : decode cX3_readNumber 111 = .ok (.lconst 0, 1) := by decide +kernel
theorem dX3_readNumber_112 : decode cX3_readNumber 112 = .ok (.lcmp, 1) := by decide +kernel
theorem dX3_readNumber_113 : decode cX3_readNumber 113 = .ok (.ifCond .ne 7, 3) := by decide +kernel
theorem dX3_readNumber_116 : decode cX3_readNumber 116 = .ok (.iconst 1, 1) := by decide +kernel
theorem dX3_readNumber_117 : decode cX3_readNumber 117 = .ok (.goto 4, 3) := by decide +kernel
theorem dX3_readNumber_120 : decode cX3_readNumber 120 = .ok (.iconst 0, 1) := by decide +kernel
theorem dX3_readNumber_121 : decode cX3_readNumber 121 = .ok (.istore 9, 2) := by decide +kernel
theorem dX3_readNumber_123 : decode cX3_readNumber 123 = .ok (.iload 9, 2) := by decide +kernel
theorem dX3_readNumber_125 : decode cX3_readNumber 125 = .ok (.ifCond .eq 16, 3) := by decide +kernel
theorem dX3_readNumber_128 : decode cX3_readNumber 128 = .ok (.lload 5, 2) := by decide +kernel
theorem dX3_readNumber_130 : decode cX3_readNumber 130 = .ok (.aload_n 0, 1) := by decide +kernel
theorem dX3_readNumber_131 : decode cX3_readNumber 131 = .ok (.getfield 57, 3) := by decide +kernel
theorem dX3_readNumber_134 : decode cX3_readNumber 134 = .ok (.lmul, 1) := by decide +kernel
theorem dX3_readNumber_135 : decode cX3_readNumber 135 = .ok (.lload 7, 2) := by decide +kernel
theorem dX3_readNumber_137 : decode cX3_readNumber 137 = .ok (.ldiv, 1) := by decide +kernel
theorem dX3_readNumber_138 : decode cX3_readNumber 138 = .ok (.goto 4, 3) := by decide +kernel
theorem dX3_readNumber_141 : decode cX3_readNumber 141 = .ok (.lconst 0, 1) := by decide +kernel
theorem dX3_readNumber_142 : decode cX3_readNumber 142 = .ok (.lstore 10, 2) := by decide +kernel
theorem dX3_readNumber_144 : decode cX3_readNumber 144 = .ok (.iload 4, 2) := by decide +kernel
theorem dX3_readNumber_146 : decode cX3_readNumber 146 = .ok (.ifCond .eq 9, 3) := by decide +kernel
theorem dX3_readNumber_149 : decode cX3_readNumber 149 = .ok (.lload 10, 2) := by decide +kernel
theorem dX3_readNumber_151 : decode cX3_readNumber 151 = .ok (.lneg, 1) := by decide +kernel
theorem dX3_readNumber_152 : decode cX3_readNumber 152 = .ok (.goto 5, 3) := by decide +kernel
theorem dX3_readNumber_155 : decode cX3_readNumber 155 = .ok (.lload 10, 2) := by decide +kernel
theorem dX3_readNumber_157 : decode cX3_readNumber 157 = .ok (.lstore 10, 2) := by decide +kernel
theorem dX3_readNumber_159 : decode cX3_readNumber 159 = .ok (.aload_n 0, 1) := by decide +kernel
theorem dX3_readNumber_160 : decode cX3_readNumber 160 = .ok (.iload 9, 2) := by decide +kernel
theorem dX3_readNumber_162 : decode cX3_readNumber 162 = .ok (.ifCond .eq 14, 3) := by decide +kernel
theorem dX3_readNumber_165 : decode cX3_readNumber 165 = .ok (.lload 10, 2) := by decide +kernel
theorem dX3_readNumber_167 : decode cX3_readNumber 167 = .ok (.lload_n 1, 1) := by decide +kernel
theorem dX3_readNumber_168 : decode cX3_readNumber 168 = .ok (.lcmp, 1) := by decide +kernel
theorem dX3_readNumber_169 : decode cX3_readNumber 169 = .ok (.ifCond .lt 7, 3) := by decide +kernel
theorem dX3_readNumber_172 : decode cX3_readNumber 172 = .ok (.iconst 1, 1) := by decide +kernel
theorem dX3_readNumber_173 : decode cX3_readNumber 173 = .ok (.goto 4, 3) := by decide +kernel
theorem dX3_readNumber_176 : decode cX3_readNumber 176 = .ok (.iconst 0, 1) := by decide +kernel
theorem dX3_readNumber_177 : decode cX3_readNumber 177 = .ok (.putfield 91, 3) := by decide +kernel
theorem dX3_readNumber_180 : decode cX3_readNumber 180 = .ok (.aload_n 0, 1) := by decide +kernel
theorem dX3_readNumber_181 : decode cX3_readNumber 181 = .ok (.aload_n 0, 1) := by decide +kernel
theorem dX3_readNumber_182 : decode cX3_readNumber 182 = .ok (.getfield 91, 3) := by decide +kernel
theorem dX3_readNumber_185 : decode cX3_readNumber 185 = .ok (.ifCond .eq 10, 3) := by decide +kernel
theorem dX3_readNumber_188 : decode cX3_readNumber 188 = .ok (.aload_n 0, 1) := by decide +kernel
theorem dX3_readNumber_189 : decode cX3_readNumber 189 = .ok (.getfield 82, 3) := by decide +kernel
theorem dX3_readNumber_192 : decode cX3_readNumber 192 = .ok (.goto 4, 3) := by decide +kernel
theorem dX3_readNumber_195 : decode cX3_readNumber 195 = .ok (.iload_n 3, 1) := by decide +kernel
theorem dX3_readNumber_196 : decode cX3_readNumber 196 = .ok (.putfield 82, 3) := by decide +kernel
theorem dX3_readNumber_199 : decode cX3_readNumber 199 = .ok (.lload 10, 2) := by decide +kernel
theorem dX3_readNumber_201 : decode cX3_readNumber 201 = .ok (.lreturn, 1) := by decide +kernel
theorem dX3_readInterval_0 : decode cX3_readInterval 0 = .ok (.aload_n 0, 1) := by decide +kernel
theorem dX3_readInterval_1 : decode cX3_readInterval 1 = .ok (.iconst 0, 1) := by decide +kernel
theorem dX3_readInterval_2 : decode cX3_readInterval 2 = .ok (.putfield 82, 3) := by decide +kernel
theorem dX3_readInterval_5 : decode cX3_readInterval 5 = .ok (.aload_n 0, 1) := by decide +kernel
theorem dX3_readInterval_6 : decode cX3_readInterval 6 = .ok (.aload_n 0, 1) := by decide +kernel
theorem dX3_readInterval_7 : decode cX3_readInterval 7 = .ok (.ldc2_w 105, 3) := by decide +kernel
theorem dX3_readInterval_10 : decode cX3_readInterval 10 = .ok (.aload_n 0, 1) := by decide +kernel
theorem dX3_readInterval_11 : decode cX3_readInterval 11 = .ok (.getfield 57, 3) := by decide +kernel
theorem dX3_readInterval_14 : decode cX3_readInterval 14 = .ok (.lmul, 1) := by decide +kernel
theorem dX3_readInterval_15 : decode cX3_readInterval 15 = .ok (.invokevirtual 107, 3) := by decide +kernel
theorem dX3_readInterval_18 : decode cX3_readInterval 18 = .ok (.putfield 111, 3) := by decide +kernel
theorem dX3_readInterval_21 : decode cX3_readInterval 21 = .ok (.aload_n 0, 1) := by decide +kernel
theorem dX3_readInterval_22 : decode cX3_readInterval 22 = .ok (.aload_n 0, 1) := by decide +kernel
theorem dX3_readInterval_23 : decode cX3_readInterval 23 = .ok (.getfield 111, 3) := by decide +kernel
theorem dX3_readInterval_26 : decode cX3_readInterval 26 = .ok (.putfield 114, 3) := by decide +kernel
theorem dX3_readInterval_29 : decode cX3_readInterval 29 = .ok (.aload_n 0, 1) := by decide +kernel
theorem dX3_readInterval_30 : decode cX3_readInterval 30 = .ok (.getfield 91, 3) := by decide +kernel
theorem dX3_readInterval_33 : decode cX3_readInterval 33 = .ok (.ifCond .eq 111, 3) := by decide +kernel
theorem dX3_readInterval_36 : decode cX3_readInterval 36 = .ok (.aload_n 0, 1) := by decide +kernel
theorem dX3_readInterval_37 : decode cX3_readInterval 37 = .ok (.getfield 82, 3) := by decide +kernel
theorem dX3_readInterval_40 : decode cX3_readInterval 40 = .ok (.aload_n 0, 1) := by decide +kernel
theorem dX3_readInterval_41 : decode cX3_readInterval 41 = .ok (.getfield 79, 3) := by decide +kernel
theorem dX3_readInterval_44 : decode cX3_readInterval 44 = .ok (.if_icmp .ge 100, 3) := by decide +kernel
theorem dX3_readInterval_47 : decode cX3_readInterval 47 = .ok (.iconst 0, 1) := by decide +kernel
theorem dX3_readInterval_48 : decode cX3_readInterval 48 = .ok (.istore_n 1, 1) := by decide +kernel
theorem dX3_readInterval_49 : decode cX3_readInterval 49 = .ok (.iload_n 1, 1) := by decide +kernel
theorem dX3_readInterval_50 : decode cX3_readInterval 50 = .ok (.iconst 2, 1) := by decide +kernel
theorem dX3_readInterval_51 : decode cX3_readInterval 51 = .ok (.if_icmp .ge 47, 3) := by decide +kernel
theorem dX3_readInterval_54 : decode cX3_readInterval 54 = .ok (.aload_n 0, 1) := by decide +kernel
theorem dX3_readInterval_55 : decode cX3_readInterval 55 = .ok (.getfield 91, 3) := by decide +kernel
theorem dX3_readInterval_58 : decode cX3_readInterval 58 = .ok (.ifCond .eq 40, 3) := by decide +kernel
theorem dX3_readInterval_61 : decode cX3_readInterval 61 = .ok (.aload_n 0, 1) := by decide +kernel
theorem dX3_readInterval_62 : decode cX3_readInterval 62 = .ok (.aload_n 0, 1) := by decide +kernel
theorem dX3_readInterval_63 : decode cX3_readInterval 63 = .ok (.bipush 46, 2) := by decide +kernel
theorem dX3_readInterval_65 : decode cX3_readInterval 65 = .ok (.invokevirtual 95, 3) := by decide +kernel
theorem dX3_readInterval_68 : decode cX3_readInterval 68 = .ok (.putfield 91, 3) := by decide +kernel
theorem dX3_readInterval_71 : decode cX3_readInterval 71 = .ok (.aload_n 0, 1) := by decide +kernel
theorem dX3_readInterval_72 : decode cX3_readInterval 72 = .ok (.dup, 1) := by decide +kernel
theorem dX3_readInterval_73 : decode cX3_readInterval 73 = .ok (.getfield 82, 3) := by decide +kernel
theorem dX3_readInterval_76 : decode cX3_readInterval 76 = .ok (.aload_n 0, 1) := by decide +kernel
theorem dX3_readInterval_77 : decode cX3_readInterval 77 = .ok (.getfield 91, 3) := by decide +kernel
theorem dX3_readInterval_80 : decode cX3_readInterval 80 = .ok (.ifCond .eq 7, 3) := by decide +kernel
theorem dX3_readInterval_83 : decode cX3_readInterval 83 = .ok (.iconst 1, 1) := by decide +kernel
theorem dX3_readInterval_84 : decode cX3_readInterval 84 = .ok (.goto 4, 3) := by decide +kernel
theorem dX3_readInterval_87 : decode cX3_readInterval 87 = .ok (.iconst 0, 1) := by decide +kernel
theorem dX3_readInterval_88 : decode cX3_readInterval 88 = .ok (.iadd, 1) := by decide +kernel
theorem dX3_readInterval_89 : decode cX3_readInterval 89 = .ok (.putfield 82, 3) := by decide +kernel
theorem dX3_readInterval_92 : decode cX3_readInterval 92 = .ok (.iinc 1 1, 3) := by decide +kernel
theorem dX3_readInterval_95 : decode cX3_readInterval 95 = .ok (.goto (-46), 3) := by decide +kernel
theorem dX3_readInterval_98 : decode cX3_readInterval 98 = .ok (.aload_n 0, 1) := by decide +kernel
theorem dX3_readInterval_99 : decode cX3_readInterval 99 = .ok (.getfield 91, 3) := by decide +kernel
theorem dX3_readInterval_102 : decode cX3_readInterval 102 = .ok (.ifCond .eq 15, 3) := by decide +kernel
theorem dX3_readInterval_105 : decode cX3_readInterval 105 = .ok (.aload_n 0, 1) := by decide +kernel
theorem dX3_readInterval_106 : decode cX3_readInterval 106 = .ok (.aload_n 0, 1) := by decide +kernel
theorem dX3_readInterval_107 : decode cX3_readInterval 107 = .ok (.aload_n 0, 1) := by decide +kernel
theorem dX3_readInterval_108 : decode cX3_readInterval 108 = .ok (.getfield 111, 3) := by decide +kernel
theorem dX3_readInterval_111 : decode cX3_readInterval 111 = .ok (.invokevirtual 107, 3) := by decide +kernel
theorem dX3_readInterval_114 : decode cX3_readInterval 114 = .ok (.putfield 114, 3) := by decide +kernel
theorem dX3_readInterval_117 : decode cX3_readInterval 117 = .ok (.aload_n 0, 1) := by decide +kernel
theorem dX3_readInterval_118 : decode cX3_readInterval 118 = .ok (.getfield 91, 3) := by decide +kernel
theorem dX3_readInterval_121 : decode cX3_readInterval 121 = .ok (.ifCond .eq 23, 3) := by decide +kernel
theorem dX3_readInterval_124 : decode cX3_readInterval 124 = .ok (.aload_n 0, 1) := by decide +kernel
theorem dX3_readInterval_125 : decode cX3_readInterval 125 = .ok (.aload_n 0, 1) := by decide +kernel
theorem dX3_readInterval_126 : decode cX3_readInterval 126 = .ok (.getfield 82, 3) := by decide +kernel
theorem dX3_readInterval_129 : decode cX3_readInterval 129 = .ok (.aload_n 0, 1) := by decide +kernel
theorem dX3_readInterval_130 : decode cX3_readInterval 130 = .ok (.getfield 79, 3) := by decide +kernel
theorem dX3_readInterval_133 : decode cX3_readInterval 133 = .ok (.if_icmp .ne 7, 3) := by decide +kernel
theorem dX3_readInterval_136 : decode cX3_readInterval 136 = .ok (.iconst 1, 1) := by decide +kernel
theorem dX3_readInterval_137 : decode cX3_readInterval 137 = .ok (.goto 4, 3) := by decide +kernel
theorem dX3_readInterval_140 : decode cX3_readInterval 140 = .ok (.iconst 0, 1) := by decide +kernel
theorem dX3_readInterval_141 : decode cX3_readInterval 141 = .ok (.putfield 91, 3) := by decide +kernel
theorem dX3_readInterval_144 : decode cX3_readInterval 144 = .ok (.aload_n 0, 1) := by decide +kernel
theorem dX3_readInterval_145 : decode cX3_readInterval 145 = .ok (.getfield 91, 3) := by decide +kernel
theorem dX3_readInterval_148 : decode cX3_readInterval 148 = .ok (.ifCond .eq 7, 3) := by decide +kernel
theorem dX3_readInterval_151 : decode cX3_readInterval 151 = .ok (.iconst 0, 1) := by decide +kernel
theorem dX3_readInterval_152 : decode cX3_readInterval 152 = .ok (.goto 10, 3) := by decide +kernel
theorem dX3_readInterval_155 : decode cX3_readInterval 155 = .ok (.bipush (-100), 2) := by decide +kernel
theorem dX3_readInterval_157 : decode cX3_readInterval 157 = .ok (.aload_n 0, 1) := by decide +kernel
theorem dX3_readInterval_158 : decode cX3_readInterval 158 = .ok (.getfield 82, 3) := by decide +kernel
theorem dX3_readInterval_161 : decode cX3_readInterval 161 = .ok (.isub, 1) := by decide +kernel
theorem dX3_readInterval_162 : decode cX3_readInterval 162 = .ok (.ireturn, 1) := by decide +kernel
theorem dX3_readInput_0 : decode cX3_readInput 0 = .ok (.aload_n 0, 1) := by decide +kernel
theorem dX3_readInput_1 : decode cX3_readInput 1 = .ok (.iload_n 1, 1) := by decide +kernel
theorem dX3_readInput_2 : decode cX3_readInput 2 = .ok (.invokevirtual 117, 3) := by decide +kernel
theorem dX3_readInput_5 : decode cX3_readInput 5 = .ok (.ifCond .eq 7, 3) := by decide +kernel
theorem dX3_readInput_8 : decode cX3_readInput 8 = .ok (.sipush (-1001), 3) := by decide +kernel
theorem dX3_readInput_11 : decode cX3_readInput 11 = .ok (.ireturn, 1) := by decide +kernel
theorem dX3_readInput_12 : decode cX3_readInput 12 = .ok (.aload_n 0, 1) := by decide +kernel
theorem dX3_readInput_13 : decode cX3_readInput 13 = .ok (.getfield 64, 3) := by decide +kernel
theorem dX3_readInput_16 : decode cX3_readInput 16 = .ok (.ifCond .le 7, 3) := by decide +kernel
