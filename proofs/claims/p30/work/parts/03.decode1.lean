theorem dX0_init_0 : decode cX0_init 0 = .ok (.aload_n 0, 1) := by decide +kernel
theorem dX0_init_1 : decode cX0_init 1 = .ok (.invokespecial 1, 3) := by decide +kernel
theorem dX0_init_4 : decode cX0_init 4 = .ok (.iload_n 1, 1) := by decide +kernel
theorem dX0_init_5 : decode cX0_init 5 = .ok (.ifCond .le 13, 3) := by decide +kernel
theorem dX0_init_8 : decode cX0_init 8 = .ok (.iload_n 2, 1) := by decide +kernel
theorem dX0_init_9 : decode cX0_init 9 = .ok (.ifCond .le 9, 3) := by decide +kernel
theorem dX0_init_12 : decode cX0_init 12 = .ok (.iload_n 1, 1) := by decide +kernel
theorem dX0_init_13 : decode cX0_init 13 = .ok (.iload_n 2, 1) := by decide +kernel
theorem dX0_init_14 : decode cX0_init 14 = .ok (.imul, 1) := by decide +kernel
theorem dX0_init_15 : decode cX0_init 15 = .ok (.goto 4, 3) := by decide +kernel
theorem dX0_init_18 : decode cX0_init 18 = .ok (.iconst 0, 1) := by decide +kernel
theorem dX0_init_19 : decode cX0_init 19 = .ok (.istore_n 3, 1) := by decide +kernel
theorem dX0_init_20 : decode cX0_init 20 = .ok (.aload_n 0, 1) := by decide +kernel
theorem dX0_init_21 : decode cX0_init 21 = .ok (.iload_n 2, 1) := by decide +kernel
theorem dX0_init_22 : decode cX0_init 22 = .ok (.putfield 7, 3) := by decide +kernel
theorem dX0_init_25 : decode cX0_init 25 = .ok (.aload_n 0, 1) := by decide +kernel
theorem dX0_init_26 : decode cX0_init 26 = .ok (.iload_n 3, 1) := by decide +kernel
theorem dX0_init_27 : decode cX0_init 27 = .ok (.newarray .long, 2) := by decide +kernel
theorem dX0_init_29 : decode cX0_init 29 = .ok (.putfield 13, 3) := by decide +kernel
theorem dX0_init_32 : decode cX0_init 32 = .ok (.aload_n 0, 1) := by decide +kernel
theorem dX0_init_33 : decode cX0_init 33 = .ok (.iload_n 3, 1) := by decide +kernel
theorem dX0_init_34 : decode cX0_init 34 = .ok (.newarray .long, 2) := by decide +kernel
theorem dX0_init_36 : decode cX0_init 36 = .ok (.putfield 17, 3) := by decide +kernel
theorem dX0_init_39 : decode cX0_init 39 = .ok (.return_, 1) := by decide +kernel
theorem dX0_end_0 : decode cX0_end 0 = .ok (.iload_n 1, 1) := by decide +kernel
theorem dX0_end_1 : decode cX0_end 1 = .ok (.aload_n 0, 1) := by decide +kernel
theorem dX0_end_2 : decode cX0_end 2 = .ok (.getfield 7, 3) := by decide +kernel
theorem dX0_end_5 : decode cX0_end 5 = .ok (.imul, 1) := by decide +kernel
theorem dX0_end_6 : decode cX0_end 6 = .ok (.iload_n 2, 1) := by decide +kernel
theorem dX0_end_7 : decode cX0_end 7 = .ok (.iadd, 1) := by decide +kernel
theorem dX0_end_8 : decode cX0_end 8 = .ok (.istore 4, 2) := by decide +kernel
theorem dX0_end_10 : decode cX0_end 10 = .ok (.iload 4, 2) := by decide +kernel
theorem dX0_end_12 : decode cX0_end 12 = .ok (.ifCond .lt 23, 3) := by decide +kernel
theorem dX0_end_15 : decode cX0_end 15 = .ok (.iload 4, 2) := by decide +kernel
theorem dX0_end_17 : decode cX0_end 17 = .ok (.aload_n 0, 1) := by decide +kernel
theorem dX0_end_18 : decode cX0_end 18 = .ok (.getfield 13, 3) := by decide +kernel
theorem dX0_end_21 : decode cX0_end 21 = .ok (.arraylength, 1) := by decide +kernel
theorem dX0_end_22 : decode cX0_end 22 = .ok (.if_icmp .ge 13, 3) := by decide +kernel
theorem dX0_end_25 : decode cX0_end 25 = .ok (.iload 4, 2) := by decide +kernel
theorem dX0_end_27 : decode cX0_end 27 = .ok (.aload_n 0, 1) := by decide +kernel
theorem dX0_end_28 : decode cX0_end 28 = .ok (.getfield 17, 3) := by decide +kernel
theorem dX0_end_31 : decode cX0_end 31 = .ok (.arraylength, 1) := by decide +kernel
theorem dX0_end_32 : decode cX0_end 32 = .ok (.if_icmp .lt 5, 3) := by decide +kernel
theorem dX0_end_35 : decode cX0_end 35 = .ok (.lconst 0, 1) := by decide +kernel
theorem dX0_end_36 : decode cX0_end 36 = .ok (.lreturn, 1) := by decide +kernel
theorem dX0_end_37 : decode cX0_end 37 = .ok (.iload_n 3, 1) := by decide +kernel
theorem dX0_end_38 : decode cX0_end 38 = .ok (.ifCond .eq 13, 3) := by decide +kernel
theorem dX0_end_41 : decode cX0_end 41 = .ok (.aload_n 0, 1) := by decide +kernel
theorem dX0_end_42 : decode cX0_end 42 = .ok (.getfield 17, 3) := by decide +kernel
theorem dX0_end_45 : decode cX0_end 45 = .ok (.iload 4, 2) := by decide +kernel
theorem dX0_end_47 : decode cX0_end 47 = .ok (.laload, 1) := by decide +kernel
theorem dX0_end_48 : decode cX0_end 48 = .ok (.goto 10, 3) := by decide +kernel
theorem dX0_end_51 : decode cX0_end 51 = .ok (.aload_n 0, 1) := by decide +kernel
theorem dX0_end_52 : decode cX0_end 52 = .ok (.getfield 13, 3) := by decide +kernel
theorem dX0_end_55 : decode cX0_end 55 = .ok (.iload 4, 2) := by decide +kernel
theorem dX0_end_57 : decode cX0_end 57 = .ok (.laload, 1) := by decide +kernel
theorem dX0_end_58 : decode cX0_end 58 = .ok (.lreturn, 1) := by decide +kernel
theorem dX0_put_0 : decode cX0_put 0 = .ok (.iload_n 1, 1) := by decide +kernel
theorem dX0_put_1 : decode cX0_put 1 = .ok (.aload_n 0, 1) := by decide +kernel
theorem dX0_put_2 : decode cX0_put 2 = .ok (.getfield 7, 3) := by decide +kernel
theorem dX0_put_5 : decode cX0_put 5 = .ok (.imul, 1) := by decide +kernel
theorem dX0_put_6 : decode cX0_put 6 = .ok (.iload_n 2, 1) := by decide +kernel
theorem dX0_put_7 : decode cX0_put 7 = .ok (.iadd, 1) := by decide +kernel
theorem dX0_put_8 : decode cX0_put 8 = .ok (.istore 7, 2) := by decide +kernel
theorem dX0_put_10 : decode cX0_put 10 = .ok (.iload 7, 2) := by decide +kernel
theorem dX0_put_12 : decode cX0_put 12 = .ok (.ifCond .lt 23, 3) := by decide +kernel
theorem dX0_put_15 : decode cX0_put 15 = .ok (.iload 7, 2) := by decide +kernel
theorem dX0_put_17 : decode cX0_put 17 = .ok (.aload_n 0, 1) := by decide +kernel
theorem dX0_put_18 : decode cX0_put 18 = .ok (.getfield 13, 3) := by decide +kernel
theorem dX0_put_21 : decode cX0_put 21 = .ok (.arraylength, 1) := by decide +kernel
theorem dX0_put_22 : decode cX0_put 22 = .ok (.if_icmp .ge 13, 3) := by decide +kernel
theorem dX0_put_25 : decode cX0_put 25 = .ok (.iload 7, 2) := by decide +kernel
theorem dX0_put_27 : decode cX0_put 27 = .ok (.aload_n 0, 1) := by decide +kernel
theorem dX0_put_28 : decode cX0_put 28 = .ok (.getfield 17, 3) := by decide +kernel
theorem dX0_put_31 : decode cX0_put 31 = .ok (.arraylength, 1) := by decide +kernel
theorem dX0_put_32 : decode cX0_put 32 = .ok (.if_icmp .lt 4, 3) := by decide +kernel
theorem dX0_put_35 : decode cX0_put 35 = .ok (.return_, 1) := by decide +kernel
theorem dX0_put_36 : decode cX0_put 36 = .ok (.aload_n 0, 1) := by decide +kernel
theorem dX0_put_37 : decode cX0_put 37 = .ok (.getfield 13, 3) := by decide +kernel
theorem dX0_put_40 : decode cX0_put 40 = .ok (.iload 7, 2) := by decide +kernel
theorem dX0_put_42 : decode cX0_put 42 = .ok (.lload_n 3, 1) := by decide +kernel
theorem dX0_put_43 : decode cX0_put 43 = .ok (.lastore, 1) := by decide +kernel
theorem dX0_put_44 : decode cX0_put 44 = .ok (.aload_n 0, 1) := by decide +kernel
theorem dX0_put_45 : decode cX0_put 45 = .ok (.getfield 17, 3) := by decide +kernel
theorem dX0_put_48 : decode cX0_put 48 = .ok (.iload 7, 2) := by decide +kernel
theorem dX0_put_50 : decode cX0_put 50 = .ok (.lload 5, 2) := by decide +kernel
theorem dX0_put_52 : decode cX0_put 52 = .ok (.lastore, 1) := by decide +kernel
theorem dX0_put_53 : decode cX0_put 53 = .ok (.return_, 1) := by decide +kernel
theorem dX0_extremeEnd_0 : decode cX0_extremeEnd 0 = .ok (.iload_n 3, 1) := by decide +kernel
theorem dX0_extremeEnd_1 : decode cX0_extremeEnd 1 = .ok (.ifCond .eq 10, 3) := by decide +kernel
theorem dX0_extremeEnd_4 : decode cX0_extremeEnd 4 = .ok (.aload_n 0, 1) := by decide +kernel
theorem dX0_extremeEnd_5 : decode cX0_extremeEnd 5 = .ok (.getfield 17, 3) := by decide +kernel
theorem dX0_extremeEnd_8 : decode cX0_extremeEnd 8 = .ok (.goto 7, 3) := by decide +kernel
theorem dX0_extremeEnd_11 : decode cX0_extremeEnd 11 = .ok (.aload_n 0, 1) := by decide +kernel
theorem dX0_extremeEnd_12 : decode cX0_extremeEnd 12 = .ok (.getfield 13, 3) := by decide +kernel
theorem dX0_extremeEnd_15 : decode cX0_extremeEnd 15 = .ok (.astore 5, 2) := by decide +kernel
theorem dX0_extremeEnd_17 : decode cX0_extremeEnd 17 = .ok (.lconst 0, 1) := by decide +kernel
theorem dX0_extremeEnd_18 : decode cX0_extremeEnd 18 = .ok (.lstore 6, 2) := by decide +kernel
theorem dX0_extremeEnd_20 : decode cX0_extremeEnd 20 = .ok (.iconst 0, 1) := by decide +kernel
theorem dX0_extremeEnd_21 : decode cX0_extremeEnd 21 = .ok (.istore 8, 2) := by decide +kernel
theorem dX0_extremeEnd_23 : decode cX0_extremeEnd 23 = .ok (.iconst 0, 1) := by decide +kernel
theorem dX0_extremeEnd_24 : decode cX0_extremeEnd 24 = .ok (.istore 9, 2) := by decide +kernel
theorem dX0_extremeEnd_26 : decode cX0_extremeEnd 26 = .ok (.iload 9, 2) := by decide +kernel
theorem dX0_extremeEnd_28 : decode cX0_extremeEnd 28 = .ok (.aload_n 0, 1) := by decide +kernel
theorem dX0_extremeEnd_29 : decode cX0_extremeEnd 29 = .ok (.getfield 7, 3) := by decide +kernel
theorem dX0_extremeEnd_32 : decode cX0_extremeEnd 32 = .ok (.if_icmp .ge 122, 3) := by decide +kernel
theorem dX0_extremeEnd_35 : decode cX0_extremeEnd 35 = .ok (.iload_n 1, 1) := by decide +kernel
theorem dX0_extremeEnd_36 : decode cX0_extremeEnd 36 = .ok (.aload_n 0, 1) := by decide +kernel
theorem dX0_extremeEnd_37 : decode cX0_extremeEnd 37 = .ok (.getfield 7, 3) := by decide +kernel
theorem dX0_extremeEnd_40 : decode cX0_extremeEnd 40 = .ok (.imul, 1) := by decide +kernel
theorem dX0_extremeEnd_41 : decode cX0_extremeEnd 41 = .ok (.iload 9, 2) := by decide +kernel
theorem dX0_extremeEnd_43 : decode cX0_extremeEnd 43 = .ok (.iadd, 1) := by decide +kernel
theorem dX0_extremeEnd_44 : decode cX0_extremeEnd 44 = .ok (.istore 10, 2) := by decide +kernel
theorem dX0_extremeEnd_46 : decode cX0_extremeEnd 46 = .ok (.iload_n 2, 1) := by decide +kernel
theorem dX0_extremeEnd_47 : decode cX0_extremeEnd 47 = .ok (.iload 9, 2) := by decide +kernel
theorem dX0_extremeEnd_49 : decode cX0_extremeEnd 49 = .ok (.ishr, 1) := by decide +kernel
theorem dX0_extremeEnd_50 : decode cX0_extremeEnd 50 = .ok (.iconst 1, 1) := by decide +kernel
theorem dX0_extremeEnd_51 : decode cX0_extremeEnd 51 = .ok (.iand, 1) := by decide +kernel
theorem dX0_extremeEnd_52 : decode cX0_extremeEnd 52 = .ok (.iconst 1, 1) := by decide +kernel
theorem dX0_extremeEnd_53 : decode cX0_extremeEnd 53 = .ok (.if_icmp .ne 7, 3) := by decide +kernel
theorem dX0_extremeEnd_56 : decode cX0_extremeEnd 56 = .ok (.iconst 1, 1) := by decide +kernel
theorem dX0_extremeEnd_57 : decode cX0_extremeEnd 57 = .ok (.goto 4, 3) := by decide +kernel
theorem dX0_extremeEnd_60 : decode cX0_extremeEnd 60 = .ok (.iconst 0, 1) := by decide +kernel
theorem dX0_extremeEnd_61 : decode cX0_extremeEnd 61 = .ok (.istore 11, 2) := by decide +kernel
theorem dX0_extremeEnd_63 : decode cX0_extremeEnd 63 = .ok (.iload 11, 2) := by decide +kernel
theorem dX0_extremeEnd_65 : decode cX0_extremeEnd 65 = .ok (.ifCond .eq 83, 3) := by decide +kernel
theorem dX0_extremeEnd_68 : decode cX0_extremeEnd 68 = .ok (.iload 10, 2) := by decide +kernel
theorem dX0_extremeEnd_70 : decode cX0_extremeEnd 70 = .ok (.ifCond .lt 78, 3) := by decide +kernel
theorem dX0_extremeEnd_73 : decode cX0_extremeEnd 73 = .ok (.iload 10, 2) := by decide +kernel
theorem dX0_extremeEnd_75 : decode cX0_extremeEnd 75 = .ok (.aload 5, 2) := by decide +kernel
theorem dX0_extremeEnd_77 : decode cX0_extremeEnd 77 = .ok (.arraylength, 1) := by decide +kernel
theorem dX0_extremeEnd_78 : decode cX0_extremeEnd 78 = .ok (.if_icmp .ge 70, 3) := by decide +kernel
theorem dX0_extremeEnd_81 : decode cX0_extremeEnd 81 = .ok (.iload 4, 2) := by decide +kernel
theorem dX0_extremeEnd_83 : decode cX0_extremeEnd 83 = .ok (.ifCond .eq 22, 3) := by decide +kernel
theorem dX0_extremeEnd_86 : decode cX0_extremeEnd 86 = .ok (.aload 5, 2) := by decide +kernel
theorem dX0_extremeEnd_88 : decode cX0_extremeEnd 88 = .ok (.iload 10, 2) := by decide +kernel
theorem dX0_extremeEnd_90 : decode cX0_extremeEnd 90 = .ok (.laload, 1) := by decide +kernel
theorem dX0_extremeEnd_91 : decode cX0_extremeEnd 91 = .ok (.lload 6, 2) := by decide +kernel
theorem dX0_extremeEnd_93 : decode cX0_extremeEnd 93 = .ok (.lcmp, 1) := by decide +kernel
theorem dX0_extremeEnd_94 : decode cX0_extremeEnd 94 = .ok (.ifCond .le 7, 3) := by decide +kernel
theorem dX0_extremeEnd_97 : decode cX0_extremeEnd 97 = .ok (.iconst 1, 1) := by decide +kernel
theorem dX0_extremeEnd_98 : decode cX0_extremeEnd 98 = .ok (.goto 23, 3) := by decide +kernel
theorem dX0_extremeEnd_101 : decode cX0_extremeEnd 101 = .ok (.iconst 0, 1) := by decide +kernel
theorem dX0_extremeEnd_102 : decode cX0_extremeEnd 102 = .ok (.goto 19, 3) := by decide +kernel
theorem dX0_extremeEnd_105 : decode cX0_extremeEnd 105 = .ok (.aload 5, 2) := by decide +kernel
theorem dX0_extremeEnd_107 : decode cX0_extremeEnd 107 = .ok (.iload 10, 2) := by decide +kernel
theorem dX0_extremeEnd_109 : decode cX0_extremeEnd 109 = .ok (.laload, 1) := by decide +kernel
theorem dX0_extremeEnd_110 : decode cX0_extremeEnd 110 = .ok (.lload 6, 2) := by decide +kernel
theorem dX0_extremeEnd_112 : decode cX0_extremeEnd 112 = .ok (.lcmp, 1) := by decide +kernel
theorem dX0_extremeEnd_113 : decode cX0_extremeEnd 113 = .ok (.ifCond .ge 7, 3) := by decide +kernel
theorem dX0_extremeEnd_116 : decode cX0_extremeEnd 116 = .ok (.iconst 1, 1) := by decide +kernel
theorem dX0_extremeEnd_117 : decode cX0_extremeEnd 117 = .ok (.goto 4, 3) := by decide +kernel
theorem dX0_extremeEnd_120 : decode cX0_extremeEnd 120 = .ok (.iconst 0, 1) := by decide +kernel
theorem dX0_extremeEnd_121 : decode cX0_extremeEnd 121 = .ok (.istore 12, 2) := by decide +kernel
theorem dX0_extremeEnd_123 : decode cX0_extremeEnd 123 = .ok (.iload 8, 2) := by decide +kernel
theorem dX0_extremeEnd_125 : decode cX0_extremeEnd 125 = .ok (.ifCond .eq 8, 3) := by decide +kernel
theorem dX0_extremeEnd_128 : decode cX0_extremeEnd 128 = .ok (.iload 12, 2) := by decide +kernel
theorem dX0_extremeEnd_130 : decode cX0_extremeEnd 130 = .ok (.ifCond .eq 11, 3) := by decide +kernel
theorem dX0_extremeEnd_133 : decode cX0_extremeEnd 133 = .ok (.aload 5, 2) := by decide +kernel
theorem dX0_extremeEnd_135 : decode cX0_extremeEnd 135 = .ok (.iload 10, 2) := by decide +kernel
theorem dX0_extremeEnd_137 : decode cX0_extremeEnd 137 = .ok (.laload, 1) := by decide +kernel
theorem dX0_extremeEnd_138 : decode cX0_extremeEnd 138 = .ok (.goto 5, 3) := by decide +kernel
theorem dX0_extremeEnd_141 : decode cX0_extremeEnd 141 = .ok (.lload 6, 2) := by decide +kernel
theorem dX0_extremeEnd_143 : decode cX0_extremeEnd 143 = .ok (.lstore 6, 2) := by decide +kernel
theorem dX0_extremeEnd_145 : decode cX0_extremeEnd 145 = .ok (.iconst 1, 1) := by decide +kernel
theorem dX0_extremeEnd_146 : decode cX0_extremeEnd 146 = .ok (.istore 8, 2) := by decide +kernel
theorem dX0_extremeEnd_148 : decode cX0_extremeEnd 148 = .ok (.iinc 9 1, 3) := by decide +kernel
theorem dX0_extremeEnd_151 : decode cX0_extremeEnd 151 = .ok (.goto (-125), 3) := by decide +kernel
theorem dX0_extremeEnd_154 : decode cX0_extremeEnd 154 = .ok (.lload 6, 2) := by decide +kernel
theorem dX0_extremeEnd_156 : decode cX0_extremeEnd 156 = .ok (.lreturn, 1) := by decide +kernel
theorem dX0_clearRow_0 : decode cX0_clearRow 0 = .ok (.iconst 0, 1) := by decide +kernel
theorem dX0_clearRow_1 : decode cX0_clearRow 1 = .ok (.istore_n 2, 1) := by decide +kernel
theorem dX0_clearRow_2 : decode cX0_clearRow 2 = .ok (.iload_n 2, 1) := by decide +kernel
theorem dX0_clearRow_3 : decode cX0_clearRow 3 = .ok (.aload_n 0, 1) := by decide +kernel
theorem dX0_clearRow_4 : decode cX0_clearRow 4 = .ok (.getfield 7, 3) := by decide +kernel
theorem dX0_clearRow_7 : decode cX0_clearRow 7 = .ok (.if_icmp .ge 17, 3) := by decide +kernel
theorem dX0_clearRow_10 : decode cX0_clearRow 10 = .ok (.aload_n 0, 1) := by decide +kernel
theorem dX0_clearRow_11 : decode cX0_clearRow 11 = .ok (.iload_n 1, 1) := by decide +kernel
theorem dX0_clearRow_12 : decode cX0_clearRow 12 = .ok (.iload_n 2, 1) := by decide +kernel
theorem dX0_clearRow_13 : decode cX0_clearRow 13 = .ok (.lconst 0, 1) := by decide +kernel
theorem dX0_clearRow_14 : decode cX0_clearRow 14 = .ok (.lconst 0, 1) := by decide +kernel
theorem dX0_clearRow_15 : decode cX0_clearRow 15 = .ok (.invokevirtual 20, 3) := by decide +kernel
theorem dX0_clearRow_18 : decode cX0_clearRow 18 = .ok (.iinc 2 1, 3) := by decide +kernel
theorem dX0_clearRow_21 : decode cX0_clearRow 21 = .ok (.goto (-19), 3) := by decide +kernel
theorem dX0_clearRow_24 : decode cX0_clearRow 24 = .ok (.return_, 1) := by decide +kernel
theorem dX1_init_0 : decode cX1_init 0 = .ok (.aload_n 0, 1) := by decide +kernel
theorem dX1_init_1 : decode cX1_init 1 = .ok (.invokespecial 3, 3) := by decide +kernel
theorem dX1_init_4 : decode cX1_init 4 = .ok (.aload_n 0, 1) := by decide +kernel
theorem dX1_init_5 : decode cX1_init 5 = .ok (.bipush 40, 2) := by decide +kernel
theorem dX1_init_7 : decode cX1_init 7 = .ok (.newarray .char, 2) := by decide +kernel
theorem dX1_init_9 : decode cX1_init 9 = .ok (.putfield 9, 3) := by decide +kernel
theorem dX1_init_12 : decode cX1_init 12 = .ok (.return_, 1) := by decide +kernel
theorem dX1_append_0 : decode cX1_append 0 = .ok (.aload_n 0, 1) := by decide +kernel
theorem dX1_append_1 : decode cX1_append 1 = .ok (.getfield 15, 3) := by decide +kernel
theorem dX1_append_4 : decode cX1_append 4 = .ok (.ifCond .lt 15, 3) := by decide +kernel
theorem dX1_append_7 : decode cX1_append 7 = .ok (.aload_n 0, 1) := by decide +kernel
theorem dX1_append_8 : decode cX1_append 8 = .ok (.getfield 15, 3) := by decide +kernel
theorem dX1_append_11 : decode cX1_append 11 = .ok (.aload_n 0, 1) := by decide +kernel
theorem dX1_append_12 : decode cX1_append 12 = .ok (.getfield 9, 3) := by decide +kernel
theorem dX1_append_15 : decode cX1_append 15 = .ok (.arraylength, 1) := by decide +kernel
theorem dX1_append_16 : decode cX1_append 16 = .ok (.if_icmp .lt 5, 3) := by decide +kernel
theorem dX1_append_19 : decode cX1_append 19 = .ok (.iconst 0, 1) := by decide +kernel
theorem dX1_append_20 : decode cX1_append 20 = .ok (.ireturn, 1) := by decide +kernel
theorem dX1_append_21 : decode cX1_append 21 = .ok (.aload_n 0, 1) := by decide +kernel
theorem dX1_append_22 : decode cX1_append 22 = .ok (.getfield 9, 3) := by decide +kernel
theorem dX1_append_25 : decode cX1_append 25 = .ok (.aload_n 0, 1) := by decide +kernel
theorem dX1_append_26 : decode cX1_append 26 = .ok (.getfield 15, 3) := by decide +kernel
theorem dX1_append_29 : decode cX1_append 29 = .ok (.iload_n 1, 1) := by decide +kernel
theorem dX1_append_30 : decode cX1_append 30 = .ok (.castore, 1) := by decide +kernel
theorem dX1_append_31 : decode cX1_append 31 = .ok (.aload_n 0, 1) := by decide +kernel
theorem dX1_append_32 : decode cX1_append 32 = .ok (.dup, 1) := by decide +kernel
theorem dX1_append_33 : decode cX1_append 33 = .ok (.getfield 15, 3) := by decide +kernel
theorem dX1_append_36 : decode cX1_append 36 = .ok (.iconst 1, 1) := by decide +kernel
theorem dX1_append_37 : decode cX1_append 37 = .ok (.iadd, 1) := by decide +kernel
theorem dX1_append_38 : decode cX1_append 38 = .ok (.putfield 15, 3) := by decide +kernel
theorem dX1_append_41 : decode cX1_append 41 = .ok (.iconst 1, 1) := by decide +kernel
theorem dX1_append_42 : decode cX1_append 42 = .ok (.ireturn, 1) := by decide +kernel
theorem dX1_empty_0 : decode cX1_empty 0 = .ok (.aload_n 0, 1) := by decide +kernel
theorem dX1_empty_1 : decode cX1_empty 1 = .ok (.getfield 15, 3) := by decide +kernel
theorem dX1_empty_4 : decode cX1_empty 4 = .ok (.istore_n 1, 1) := by decide +kernel
theorem dX1_empty_5 : decode cX1_empty 5 = .ok (.aload_n 0, 1) := by decide +kernel
theorem dX1_empty_6 : decode cX1_empty 6 = .ok (.iconst 0, 1) := by decide +kernel
theorem dX1_empty_7 : decode cX1_empty 7 = .ok (.putfield 15, 3) := by decide +kernel
theorem dX1_empty_10 : decode cX1_empty 10 = .ok (.iload_n 1, 1) := by decide +kernel
theorem dX1_empty_11 : decode cX1_empty 11 = .ok (.ireturn, 1) := by decide +kernel
theorem dX1_size_0 : decode cX1_size 0 = .ok (.aload_n 0, 1) := by decide +kernel
theorem dX1_size_1 : decode cX1_size 1 = .ok (.getfield 15, 3) := by decide +kernel
theorem dX1_size_4 : decode cX1_size 4 = .ok (.ireturn, 1) := by decide +kernel
theorem dX1_parsedLow_0 : decode cX1_parsedLow 0 = .ok (.aload_n 0, 1) := by decide +kernel
theorem dX1_parsedLow_1 : decode cX1_parsedLow 1 = .ok (.getfield 19, 3) := by decide +kernel
theorem dX1_parsedLow_4 : decode cX1_parsedLow 4 = .ok (.lreturn, 1) := by decide +kernel
theorem dX1_parsedHigh_0 : decode cX1_parsedHigh 0 = .ok (.aload_n 0, 1) := by decide +kernel
theorem dX1_parsedHigh_1 : decode cX1_parsedHigh 1 = .ok (.getfield 23, 3) := by decide +kernel
theorem dX1_parsedHigh_4 : decode cX1_parsedHigh 4 = .ok (.lreturn, 1) := by decide +kernel
theorem dX1_parse_0 : decode cX1_parse 0 = .ok (.aload_n 0, 1) := by decide +kernel
theorem dX1_parse_1 : decode cX1_parse 1 = .ok (.iconst 0, 1) := by decide +kernel
theorem dX1_parse_2 : decode cX1_parse 2 = .ok (.putfield 26, 3) := by decide +kernel
theorem dX1_parse_5 : decode cX1_parse 5 = .ok (.aload_n 0, 1) := by decide +kernel
theorem dX1_parse_6 : decode cX1_parse 6 = .ok (.iload_n 1, 1) := by decide +kernel
theorem dX1_parse_7 : decode cX1_parse 7 = .ok (.invokevirtual 29, 3) := by decide +kernel
theorem dX1_parse_10 : decode cX1_parse 10 = .ok (.istore_n 2, 1) := by decide +kernel
theorem dX1_parse_11 : decode cX1_parse 11 = .ok (.iload_n 2, 1) := by decide +kernel
theorem dX1_parse_12 : decode cX1_parse 12 = .ok (.iconst (-1), 1) := by decide +kernel
theorem dX1_parse_13 : decode cX1_parse 13 = .ok (.if_icmp .eq 5, 3) := by decide +kernel
theorem dX1_parse_16 : decode cX1_parse 16 = .ok (.iload_n 2, 1) := by decide +kernel
theorem dX1_parse_17 : decode cX1_parse 17 = .ok (.ireturn, 1) := by decide +kernel
theorem dX1_parse_18 : decode cX1_parse 18 = .ok (.aload_n 0, 1) := by decide +kernel
theorem dX1_parse_19 : decode cX1_parse 19 = .ok (.aload_n 0, 1) := by decide +kernel
theorem dX1_parse_20 : decode cX1_parse 20 = .ok (.getfield 33, 3) := by decide +kernel
theorem dX1_parse_23 : decode cX1_parse 23 = .ok (.putfield 19, 3) := by decide +kernel
theorem dX1_parse_26 : decode cX1_parse 26 = .ok (.aload_n 0, 1) := by decide +kernel
theorem dX1_parse_27 : decode cX1_parse 27 = .ok (.aload_n 0, 1) := by decide +kernel
theorem dX1_parse_28 : decode cX1_parse 28 = .ok (.getfield 33, 3) := by decide +kernel
theorem dX1_parse_31 : decode cX1_parse 31 = .ok (.putfield 23, 3) := by decide +kernel
theorem dX1_parse_34 : decode cX1_parse 34 = .ok (.aload_n 0, 1) := by decide +kernel
theorem dX1_parse_35 : decode cX1_parse 35 = .ok (.getfield 26, 3) := by decide +kernel
theorem dX1_parse_38 : decode cX1_parse 38 = .ok (.aload_n 0, 1) := by decide +kernel
theorem dX1_parse_39 : decode cX1_parse 39 = .ok (.getfield 15, 3) := by decide +kernel
theorem dX1_parse_42 : decode cX1_parse 42 = .ok (.if_icmp .ne 5, 3) := by decide +kernel
theorem dX1_parse_45 : decode cX1_parse 45 = .ok (.iconst (-1), 1) := by decide +kernel
theorem dX1_parse_46 : decode cX1_parse 46 = .ok (.ireturn, 1) := by decide +kernel
theorem dX1_parse_47 : decode cX1_parse 47 = .ok (.aload_n 0, 1) := by decide +kernel
theorem dX1_parse_48 : decode cX1_parse 48 = .ok (.bipush 46, 2) := by decide +kernel
theorem dX1_parse_50 : decode cX1_parse 50 = .ok (.invokevirtual 36, 3) := by decide +kernel
theorem dX1_parse_53 : decode cX1_parse 53 = .ok (.ifCond .eq 12, 3) := by decide +kernel
theorem dX1_parse_56 : decode cX1_parse 56 = .ok (.aload_n 0, 1) := by decide +kernel
theorem dX1_parse_57 : decode cX1_parse 57 = .ok (.bipush 46, 2) := by decide +kernel
theorem dX1_parse_59 : decode cX1_parse 59 = .ok (.invokevirtual 36, 3) := by decide +kernel
theorem dX1_parse_62 : decode cX1_parse 62 = .ok (.ifCond .ne 8, 3) := by decide +kernel
theorem dX1_parse_65 : decode cX1_parse 65 = .ok (.aload_n 0, 1) := by decide +kernel
theorem dX1_parse_66 : decode cX1_parse 66 = .ok (.getfield 26, 3) := by decide +kernel
theorem dX1_parse_69 : decode cX1_parse 69 = .ok (.ireturn, 1) := by decide +kernel
theorem dX1_parse_70 : decode cX1_parse 70 = .ok (.aload_n 0, 1) := by decide +kernel
theorem dX1_parse_71 : decode cX1_parse 71 = .ok (.getfield 26, 3) := by decide +kernel
theorem dX1_parse_74 : decode cX1_parse 74 = .ok (.istore_n 3, 1) := by decide +kernel
theorem dX1_parse_75 : decode cX1_parse 75 = .ok (.aload_n 0, 1) := by decide +kernel
theorem dX1_parse_76 : decode cX1_parse 76 = .ok (.iload_n 1, 1) := by decide +kernel
theorem dX1_parse_77 : decode cX1_parse 77 = .ok (.invokevirtual 29, 3) := by decide +kernel
theorem dX1_parse_80 : decode cX1_parse 80 = .ok (.istore_n 2, 1) := by decide +kernel
theorem dX1_parse_81 : decode cX1_parse 81 = .ok (.iload_n 2, 1) := by decide +kernel
theorem dX1_parse_82 : decode cX1_parse 82 = .ok (.iconst (-1), 1) := by decide +kernel
theorem dX1_parse_83 : decode cX1_parse 83 = .ok (.if_icmp .eq 5, 3) := by decide +kernel
theorem dX1_parse_86 : decode cX1_parse 86 = .ok (.iload_n 2, 1) := by decide +kernel
theorem dX1_parse_87 : decode cX1_parse 87 = .ok (.ireturn, 1) := by decide +kernel
theorem dX1_parse_88 : decode cX1_parse 88 = .ok (.aload_n 0, 1) := by decide +kernel
theorem dX1_parse_89 : decode cX1_parse 89 = .ok (.getfield 33, 3) := by decide +kernel
theorem dX1_parse_92 : decode cX1_parse 92 = .ok (.aload_n 0, 1) := by decide +kernel
theorem dX1_parse_93 : decode cX1_parse 93 = .ok (.getfield 19, 3) := by decide +kernel
theorem dX1_parse_96 : decode cX1_parse 96 = .ok (.lcmp, 1) := by decide +kernel
theorem dX1_parse_97 : decode cX1_parse 97 = .ok (.ifCond .ge 5, 3) := by decide +kernel
theorem dX1_parse_100 : decode cX1_parse 100 = .ok (.iload_n 3, 1) := by decide +kernel
theorem dX1_parse_101 : decode cX1_parse 101 = .ok (.ireturn, 1) := by decide +kernel
theorem dX1_parse_102 : decode cX1_parse 102 = .ok (.aload_n 0, 1) := by decide +kernel
theorem dX1_parse_103 : decode cX1_parse 103 = .ok (.aload_n 0, 1) := by decide +kernel
theorem dX1_parse_104 : decode cX1_parse 104 = .ok (.getfield 33, 3) := by decide +kernel
theorem dX1_parse_107 : decode cX1_parse 107 = .ok (.putfield 23, 3) := by decide +kernel
theorem dX1_parse_110 : decode cX1_parse 110 = .ok (.aload_n 0, 1) := by decide +kernel
theorem dX1_parse_111 : decode cX1_parse 111 = .ok (.getfield 26, 3) := by decide +kernel
theorem dX1_parse_114 : decode cX1_parse 114 = .ok (.aload_n 0, 1) := by decide +kernel
theorem dX1_parse_115 : decode cX1_parse 115 = .ok (.getfield 15, 3) := by decide +kernel
theorem dX1_parse_118 : decode cX1_parse 118 = .ok (.if_icmp .ne 7, 3) := by decide +kernel
theorem dX1_parse_121 : decode cX1_parse 121 = .ok (.iconst (-1), 1) := by decide +kernel
theorem dX1_parse_122 : decode cX1_parse 122 = .ok (.goto 7, 3) := by decide +kernel
theorem dX1_parse_125 : decode cX1_parse 125 = .ok (.aload_n 0, 1) := by decide +kernel
theorem dX1_parse_126 : decode cX1_parse 126 = .ok (.getfield 26, 3) := by decide +kernel
theorem dX1_parse_129 : decode cX1_parse 129 = .ok (.ireturn, 1) := by decide +kernel
theorem dX1_parseNumber_0 : decode cX1_parseNumber 0 = .ok (.aload_n 0, 1) := by decide +kernel
theorem dX1_parseNumber_1 : decode cX1_parseNumber 1 = .ok (.getfield 26, 3) := by decide +kernel
theorem dX1_parseNumber_4 : decode cX1_parseNumber 4 = .ok (.istore_n 2, 1) := by decide +kernel
theorem dX1_parseNumber_5 : decode cX1_parseNumber 5 = .ok (.aload_n 0, 1) := by decide +kernel
theorem dX1_parseNumber_6 : decode cX1_parseNumber 6 = .ok (.bipush 45, 2) := by decide +kernel
theorem dX1_parseNumber_8 : decode cX1_parseNumber 8 = .ok (.invokevirtual 36, 3) := by decide +kernel
theorem dX1_parseNumber_11 : decode cX1_parseNumber 11 = .ok (.istore_n 3, 1) := by decide +kernel
theorem dX1_parseNumber_12 : decode cX1_parseNumber 12 = .ok (.aload_n 0, 1) := by decide +kernel
theorem dX1_parseNumber_13 : decode cX1_parseNumber 13 = .ok (.invokevirtual 40, 3) := by decide +kernel
theorem dX1_parseNumber_16 : decode cX1_parseNumber 16 = .ok (.lstore 4, 2) := by decide +kernel
theorem dX1_parseNumber_18 : decode cX1_parseNumber 18 = .ok (.lload 4, 2) := by decide +kernel
theorem dX1_parseNumber_20 : decode cX1_parseNumber 20 = .ok (.ldc2_w 44, 3) := by decide +kernel
theorem dX1_parseNumber_23 : decode cX1_parseNumber 23 = .ok (.lcmp, 1) := by decide +kernel
theorem dX1_parseNumber_24 : decode cX1_parseNumber 24 = .ok (.ifCond .ne 8, 3) := by decide +kernel
theorem dX1_parseNumber_27 : decode cX1_parseNumber 27 = .ok (.aload_n 0, 1) := by decide +kernel
theorem dX1_parseNumber_28 : decode cX1_parseNumber 28 = .ok (.getfield 26, 3) := by decide +kernel
theorem dX1_parseNumber_31 : decode cX1_parseNumber 31 = .ok (.ireturn, 1) := by decide +kernel
theorem dX1_parseNumber_32 : decode cX1_parseNumber 32 = .ok (.lconst 1, 1) := by decide +kernel
theorem dX1_parseNumber_33 : decode cX1_parseNumber 33 = .ok (.lstore 6, 2) := by decide +kernel
theorem dX1_parseNumber_35 : decode cX1_parseNumber 35 = .ok (.aload_n 0, 1) := by decide +kernel
theorem dX1_parseNumber_36 : decode cX1_parseNumber 36 = .ok (.bipush 47, 2) := by decide +kernel
theorem dX1_parseNumber_38 : decode cX1_parseNumber 38 = .ok (.invokevirtual 36, 3) := by decide +kernel
theorem dX1_parseNumber_41 : decode cX1_parseNumber 41 = .ok (.ifCond .eq 23, 3) := by decide +kernel
theorem dX1_parseNumber_44 : decode cX1_parseNumber 44 = .ok (.aload_n 0, 1) := by decide +kernel
theorem dX1_parseNumber_45 : decode cX1_parseNumber 45 = .ok (.invokevirtual 40, 3) := by decide +kernel
theorem dX1_parseNumber_48 : decode cX1_parseNumber 48 = .ok (.lstore 6, 2) := by decide +kernel
theorem dX1_parseNumber_50 : decode cX1_parseNumber 50 = .ok (.lload 6, 2) := by decide +kernel
theorem dX1_parseNumber_52 : decode cX1_parseNumber 52 = .ok (.ldc2_w 44, 3) := by decide +kernel
theorem dX1_parseNumber_55 : decode cX1_parseNumber 55 = .ok (.lcmp, 1) := by decide +kernel
theorem dX1_parseNumber_56 : decode cX1_parseNumber 56 = .ok (.ifCond .ne 8, 3) := by decide +kernel
theorem dX1_parseNumber_59 : decode cX1_parseNumber 59 = .ok (.aload_n 0, 1) := by decide +kernel
theorem dX1_parseNumber_60 : decode cX1_parseNumber 60 = .ok (.getfield 26, 3) := by decide +kernel
theorem dX1_parseNumber_63 : decode cX1_parseNumber 63 = .ok (.ireturn, 1) := by decide +kernel
theorem dX1_parseNumber_64 : decode cX1_parseNumber 64 = .ok (.lload 4, 2) := by decide +kernel
theorem dX1_parseNumber_66 : decode cX1_parseNumber 66 = .ok (.ldc2_w 46, 3) := by decide +kernel
theorem dX1_parseNumber_69 : decode cX1_parseNumber 69 = .ok (.lload 6, 2) := by decide +kernel
theorem dX1_parseNumber_71 : decode cX1_parseNumber 71 = .ok (.lmul, 1) := by decide +kernel
theorem dX1_parseNumber_72 : decode cX1_parseNumber 72 = .ok (.lcmp, 1) := by decide +kernel
theorem dX1_parseNumber_73 : decode cX1_parseNumber 73 = .ok (.ifCond .gt 15, 3) := by decide +kernel
theorem dX1_parseNumber_76 : decode cX1_parseNumber 76 = .ok (.lload 4, 2) := by decide +kernel
theorem dX1_parseNumber_78 : decode cX1_parseNumber 78 = .ok (.lload 6, 2) := by decide +kernel
theorem dX1_parseNumber_80 : decode cX1_parseNumber 80 = .ok (.iload_n 1, 1) := by decide +kernel
theorem dX1_parseNumber_81 : decode cX1_parseNumber 81 = .ok (.i2l, 1) := by decide +kernel
theorem dX1_parseNumber_82 : decode cX1_parseNumber 82 = .ok (.invokestatic 48, 3) := by decide +kernel
theorem dX1_parseNumber_85 : decode cX1_parseNumber 85 = .ok (.ifCond .ne 5, 3) := by decide +kernel
theorem dX1_parseNumber_88 : decode cX1_parseNumber 88 = .ok (.iload_n 2, 1) := by decide +kernel
theorem dX1_parseNumber_89 : decode cX1_parseNumber 89 = .ok (.ireturn, 1) := by decide +kernel
theorem dX1_parseNumber_90 : decode cX1_parseNumber 90 = .ok (.lload 4, 2) := by decide +kernel
theorem dX1_parseNumber_92 : decode cX1_parseNumber 92 = .ok (.lload 6, 2) := by decide +kernel
theorem dX1_parseNumber_94 : decode cX1_parseNumber 94 = .ok (.iload_n 1, 1) := by decide +kernel
theorem dX1_parseNumber_95 : decode cX1_parseNumber 95 = .ok (.i2l, 1) := by decide +kernel
theorem dX1_parseNumber_96 : decode cX1_parseNumber 96 = .ok (.invokestatic 52, 3) := by decide +kernel
theorem dX1_parseNumber_99 : decode cX1_parseNumber 99 = .ok (.lstore 8, 2) := by decide +kernel
theorem dX1_parseNumber_101 : decode cX1_parseNumber 101 = .ok (.aload_n 0, 1) := by decide +kernel
theorem dX1_parseNumber_102 : decode cX1_parseNumber 102 = .ok (.iload_n 3, 1) := by decide +kernel
theorem dX1_parseNumber_103 : decode cX1_parseNumber 103 = .ok (.ifCond .eq 9, 3) := by decide +kernel
theorem dX1_parseNumber_106 : decode cX1_parseNumber 106 = .ok (.lload 8, 2) := by decide +kernel
theorem dX1_parseNumber_108 : decode cX1_parseNumber 108 = .ok (.lneg, 1) := by decide +kernel
theorem dX1_parseNumber_109 : decode cX1_parseNumber 109 = .ok (.goto 5, 3) := by decide +kernel
theorem dX1_parseNumber_112 : decode cX1_parseNumber 112 = .ok (.lload 8, 2) := by decide +kernel
theorem dX1_parseNumber_114 : decode cX1_parseNumber 114 = .ok (.putfield 33, 3) := by decide +kernel
theorem dX1_parseNumber_117 : decode cX1_parseNumber 117 = .ok (.iconst (-1), 1) := by decide +kernel
theorem dX1_parseNumber_118 : decode cX1_parseNumber 118 = .ok (.ireturn, 1) := by decide +kernel
theorem dX1_parseDigits_0 : decode cX1_parseDigits 0 = .ok (.lconst 0, 1) := by decide +kernel
theorem dX1_parseDigits_1 : decode cX1_parseDigits 1 = .ok (.lstore_n 1, 1) := by decide +kernel
theorem dX1_parseDigits_2 : decode cX1_parseDigits 2 = .ok (.iconst 0, 1) := by decide +kernel
theorem dX1_parseDigits_3 : decode cX1_parseDigits 3 = .ok (.istore_n 3, 1) := by decide +kernel
theorem dX1_parseDigits_4 : decode cX1_parseDigits 4 = .ok (.iload_n 3, 1) := by decide +kernel
theorem dX1_parseDigits_5 : decode cX1_parseDigits 5 = .ok (.bipush 6, 2) := by decide +kernel
theorem dX1_parseDigits_7 : decode cX1_parseDigits 7 = .ok (.if_icmp .ge 44, 3) := by decide +kernel
theorem dX1_parseDigits_10 : decode cX1_parseDigits 10 = .ok (.aload_n 0, 1) := by decide +kernel
theorem dX1_parseDigits_11 : decode cX1_parseDigits 11 = .ok (.invokevirtual 56, 3) := by decide +kernel
theorem dX1_parseDigits_14 : decode cX1_parseDigits 14 = .ok (.invokestatic 60, 3) := by decide +kernel
theorem dX1_parseDigits_17 : decode cX1_parseDigits 17 = .ok (.ifCond .eq 34, 3) := by decide +kernel
theorem dX1_parseDigits_20 : decode cX1_parseDigits 20 = .ok (.lload_n 1, 1) := by decide +kernel
theorem dX1_parseDigits_21 : decode cX1_parseDigits 21 = .ok (.ldc2_w 63, 3) := by decide +kernel
theorem dX1_parseDigits_24 : decode cX1_parseDigits 24 = .ok (.lmul, 1) := by decide +kernel
theorem dX1_parseDigits_25 : decode cX1_parseDigits 25 = .ok (.aload_n 0, 1) := by decide +kernel
theorem dX1_parseDigits_26 : decode cX1_parseDigits 26 = .ok (.invokevirtual 56, 3) := by decide +kernel
theorem dX1_parseDigits_29 : decode cX1_parseDigits 29 = .ok (.bipush 48, 2) := by decide +kernel
theorem dX1_parseDigits_31 : decode cX1_parseDigits 31 = .ok (.isub, 1) := by decide +kernel
theorem dX1_parseDigits_32 : decode cX1_parseDigits 32 = .ok (.i2l, 1) := by decide +kernel
theorem dX1_parseDigits_33 : decode cX1_parseDigits 33 = .ok (.ladd, 1) := by decide +kernel
theorem dX1_parseDigits_34 : decode cX1_parseDigits 34 = .ok (.lstore_n 1, 1) := by decide +kernel
theorem dX1_parseDigits_35 : decode cX1_parseDigits 35 = .ok (.iinc 3 1, 3) := by decide +kernel
theorem dX1_parseDigits_38 : decode cX1_parseDigits 38 = .ok (.aload_n 0, 1) := by decide +kernel
theorem dX1_parseDigits_39 : decode cX1_parseDigits 39 = .ok (.dup, 1) := by decide +kernel
theorem dX1_parseDigits_40 : decode cX1_parseDigits 40 = .ok (.getfield 26, 3) := by decide +kernel
theorem dX1_parseDigits_43 : decode cX1_parseDigits 43 = .ok (.iconst 1, 1) := by decide +kernel
theorem dX1_parseDigits_44 : decode cX1_parseDigits 44 = .ok (.iadd, 1) := by decide +kernel
theorem dX1_parseDigits_45 : decode cX1_parseDigits 45 = .ok (.putfield 26, 3) := by decide +kernel
theorem dX1_parseDigits_48 : decode cX1_parseDigits 48 = .ok (.goto (-44), 3) := by decide +kernel
theorem dX1_parseDigits_51 : decode cX1_parseDigits 51 = .ok (.iload_n 3, 1) := by decide +kernel
theorem dX1_parseDigits_52 : decode cX1_parseDigits 52 = .ok (.ifCond .eq 13, 3) := by decide +kernel
theorem dX1_parseDigits_55 : decode cX1_parseDigits 55 = .ok (.aload_n 0, 1) := by decide +kernel
theorem dX1_parseDigits_56 : decode cX1_parseDigits 56 = .ok (.invokevirtual 56, 3) := by decide +kernel
theorem dX1_parseDigits_59 : decode cX1_parseDigits 59 = .ok (.invokestatic 60, 3) := by decide +kernel
theorem dX1_parseDigits_62 : decode cX1_parseDigits 62 = .ok (.ifCond .eq 9, 3) := by decide +kernel
theorem dX1_parseDigits_65 : decode cX1_parseDigits 65 = .ok (.ldc2_w 44, 3) := by decide +kernel
theorem dX1_parseDigits_68 : decode cX1_parseDigits 68 = .ok (.goto 4, 3) := by decide +kernel
theorem dX1_parseDigits_71 : decode cX1_parseDigits 71 = .ok (.lload_n 1, 1) := by decide +kernel
theorem dX1_parseDigits_72 : decode cX1_parseDigits 72 = .ok (.lreturn, 1) := by decide +kernel
theorem dX1_isDigit_0 : decode cX1_isDigit 0 = .ok (.iload_n 0, 1) := by decide +kernel
theorem dX1_isDigit_1 : decode cX1_isDigit 1 = .ok (.bipush 48, 2) := by decide +kernel
theorem dX1_isDigit_3 : decode cX1_isDigit 3 = .ok (.if_icmp .lt 13, 3) := by decide +kernel
theorem dX1_isDigit_6 : decode cX1_isDigit 6 = .ok (.iload_n 0, 1) := by decide +kernel
theorem dX1_isDigit_7 : decode cX1_isDigit 7 = .ok (.bipush 57, 2) := by decide +kernel
theorem dX1_isDigit_9 : decode cX1_isDigit 9 = .ok (.if_icmp .gt 7, 3) := by decide +kernel
theorem dX1_isDigit_12 : decode cX1_isDigit 12 = .ok (.iconst 1, 1) := by decide +kernel
theorem dX1_isDigit_13 : decode cX1_isDigit 13 = .ok (.goto 4, 3) := by decide +kernel
theorem dX1_isDigit_16 : decode cX1_isDigit 16 = .ok (.iconst 0, 1) := by decide +kernel
theorem dX1_isDigit_17 : decode cX1_isDigit 17 = .ok (.ireturn, 1) := by decide +kernel
theorem dX1_skip_0 : decode cX1_skip 0 = .ok (.aload_n 0, 1) := by decide +kernel
theorem dX1_skip_1 : decode cX1_skip 1 = .ok (.invokevirtual 56, 3) := by decide +kernel
theorem dX1_skip_4 : decode cX1_skip 4 = .ok (.iload_n 1, 1) := by decide +kernel
theorem dX1_skip_5 : decode cX1_skip 5 = .ok (.if_icmp .eq 5, 3) := by decide +kernel
theorem dX1_skip_8 : decode cX1_skip 8 = .ok (.iconst 0, 1) := by decide +kernel
theorem dX1_skip_9 : decode cX1_skip 9 = .ok (.ireturn, 1) := by decide +kernel
theorem dX1_skip_10 : decode cX1_skip 10 = .ok (.aload_n 0, 1) := by decide +kernel
theorem dX1_skip_11 : decode cX1_skip 11 = .ok (.dup, 1) := by decide +kernel
theorem dX1_skip_12 : decode cX1_skip 12 = .ok (.getfield 26, 3) := by decide +kernel
theorem dX1_skip_15 : decode cX1_skip 15 = .ok (.iconst 1, 1) := by decide +kernel
theorem dX1_skip_16 : decode cX1_skip 16 = .ok (.iadd, 1) := by decide +kernel
theorem dX1_skip_17 : decode cX1_skip 17 = .ok (.putfield 26, 3) := by decide +kernel
theorem dX1_skip_20 : decode cX1_skip 20 = .ok (.iconst 1, 1) := by decide +kernel
theorem dX1_skip_21 : decode cX1_skip 21 = .ok (.ireturn, 1) := by decide +kernel
theorem dX1_characterNext_0 : decode cX1_characterNext 0 = .ok (.aload_n 0, 1) := by decide +kernel
theorem dX1_characterNext_1 : decode cX1_characterNext 1 = .ok (.getfield 26, 3) := by decide +kernel
theorem dX1_characterNext_4 : decode cX1_characterNext 4 = .ok (.ifCond .lt 30, 3) := by decide +kernel
theorem dX1_characterNext_7 : decode cX1_characterNext 7 = .ok (.aload_n 0, 1) := by decide +kernel
theorem dX1_characterNext_8 : decode cX1_characterNext 8 = .ok (.getfield 26, 3) := by decide +kernel
theorem dX1_characterNext_11 : decode cX1_characterNext 11 = .ok (.aload_n 0, 1) := by decide +kernel
theorem dX1_characterNext_12 : decode cX1_characterNext 12 = .ok (.getfield 15, 3) := by decide +kernel
theorem dX1_characterNext_15 : decode cX1_characterNext 15 = .ok (.if_icmp .ge 19, 3) := by decide +kernel
theorem dX1_characterNext_18 : decode cX1_characterNext 18 = .ok (.aload_n 0, 1) := by decide +kernel
theorem dX1_characterNext_19 : decode cX1_characterNext 19 = .ok (.getfield 26, 3) := by decide +kernel
theorem dX1_characterNext_22 : decode cX1_characterNext 22 = .ok (.aload_n 0, 1) := by decide +kernel
theorem dX1_characterNext_23 : decode cX1_characterNext 23 = .ok (.getfield 9, 3) := by decide +kernel
theorem dX1_characterNext_26 : decode cX1_characterNext 26 = .ok (.arraylength, 1) := by decide +kernel
theorem dX1_characterNext_27 : decode cX1_characterNext 27 = .ok (.if_icmp .ge 7, 3) := by decide +kernel
theorem dX1_characterNext_30 : decode cX1_characterNext 30 = .ok (.iconst 1, 1) := by decide +kernel
theorem dX1_characterNext_31 : decode cX1_characterNext 31 = .ok (.goto 4, 3) := by decide +kernel
theorem dX1_characterNext_34 : decode cX1_characterNext 34 = .ok (.iconst 0, 1) := by decide +kernel
theorem dX1_characterNext_35 : decode cX1_characterNext 35 = .ok (.istore_n 1, 1) := by decide +kernel
theorem dX1_characterNext_36 : decode cX1_characterNext 36 = .ok (.iload_n 1, 1) := by decide +kernel
theorem dX1_characterNext_37 : decode cX1_characterNext 37 = .ok (.ifCond .eq 15, 3) := by decide +kernel
theorem dX1_characterNext_40 : decode cX1_characterNext 40 = .ok (.aload_n 0, 1) := by decide +kernel
theorem dX1_characterNext_41 : decode cX1_characterNext 41 = .ok (.getfield 9, 3) := by decide +kernel
theorem dX1_characterNext_44 : decode cX1_characterNext 44 = .ok (.aload_n 0, 1) := by decide +kernel
theorem dX1_characterNext_45 : decode cX1_characterNext 45 = .ok (.getfield 26, 3) := by decide +kernel
theorem dX1_characterNext_48 : decode cX1_characterNext 48 = .ok (.caload, 1) := by decide +kernel
theorem dX1_characterNext_49 : decode cX1_characterNext 49 = .ok (.goto 4, 3) := by decide +kernel
theorem dX1_characterNext_52 : decode cX1_characterNext 52 = .ok (.iconst 0, 1) := by decide +kernel
theorem dX1_characterNext_53 : decode cX1_characterNext 53 = .ok (.ireturn, 1) := by decide +kernel
theorem dX2_init_0 : decode cX2_init 0 = .ok (.aload_n 0, 1) := by decide +kernel
theorem dX2_init_1 : decode cX2_init 1 = .ok (.invokespecial 3, 3) := by decide +kernel
theorem dX2_init_4 : decode cX2_init 4 = .ok (.aload_n 0, 1) := by decide +kernel
theorem dX2_init_5 : decode cX2_init 5 = .ok (.new 9, 3) := by decide +kernel
theorem dX2_init_8 : decode cX2_init 8 = .ok (.dup, 1) := by decide +kernel
theorem dX2_init_9 : decode cX2_init 9 = .ok (.invokespecial 11, 3) := by decide +kernel
theorem dX2_init_12 : decode cX2_init 12 = .ok (.putfield 12, 3) := by decide +kernel
theorem dX2_init_15 : decode cX2_init 15 = .ok (.aload_n 0, 1) := by decide +kernel
theorem dX2_init_16 : decode cX2_init 16 = .ok (.new 18, 3) := by decide +kernel
theorem dX2_init_19 : decode cX2_init 19 = .ok (.dup, 1) := by decide +kernel
theorem dX2_init_20 : decode cX2_init 20 = .ok (.bipush 61, 2) := by decide +kernel
theorem dX2_init_22 : decode cX2_init 22 = .ok (.bipush 10, 2) := by decide +kernel
theorem dX2_init_24 : decode cX2_init 24 = .ok (.invokespecial 20, 3) := by decide +kernel
theorem dX2_init_27 : decode cX2_init 27 = .ok (.putfield 23, 3) := by decide +kernel
theorem dX2_init_30 : decode cX2_init 30 = .ok (.aload_n 0, 1) := by decide +kernel
theorem dX2_init_31 : decode cX2_init 31 = .ok (.new 18, 3) := by decide +kernel
theorem dX2_init_34 : decode cX2_init 34 = .ok (.dup, 1) := by decide +kernel
theorem dX2_init_35 : decode cX2_init 35 = .ok (.bipush 10, 2) := by decide +kernel
theorem dX2_init_37 : decode cX2_init 37 = .ok (.bipush 10, 2) := by decide +kernel
theorem dX2_init_39 : decode cX2_init 39 = .ok (.invokespecial 20, 3) := by decide +kernel
theorem dX2_init_42 : decode cX2_init 42 = .ok (.putfield 27, 3) := by decide +kernel
theorem dX2_init_45 : decode cX2_init 45 = .ok (.aload_n 0, 1) := by decide +kernel
theorem dX2_init_46 : decode cX2_init 46 = .ok (.bipush 100, 2) := by decide +kernel
theorem dX2_init_48 : decode cX2_init 48 = .ok (.newarray .int, 2) := by decide +kernel
theorem dX2_init_50 : decode cX2_init 50 = .ok (.putfield 30, 3) := by decide +kernel
theorem dX2_init_53 : decode cX2_init 53 = .ok (.aload_n 0, 1) := by decide +kernel
theorem dX2_init_54 : decode cX2_init 54 = .ok (.bipush 10, 2) := by decide +kernel
theorem dX2_init_56 : decode cX2_init 56 = .ok (.newarray .int, 2) := by decide +kernel
theorem dX2_init_58 : decode cX2_init 58 = .ok (.putfield 34, 3) := by decide +kernel
theorem dX2_init_61 : decode cX2_init 61 = .ok (.aload_n 0, 1) := by decide +kernel
theorem dX2_init_62 : decode cX2_init 62 = .ok (.bipush 10, 2) := by decide +kernel
theorem dX2_init_64 : decode cX2_init 64 = .ok (.newarray .long, 2) := by decide +kernel
theorem dX2_init_66 : decode cX2_init 66 = .ok (.putfield 37, 3) := by decide +kernel
theorem dX2_init_69 : decode cX2_init 69 = .ok (.aload_n 0, 1) := by decide +kernel
theorem dX2_init_70 : decode cX2_init 70 = .ok (.bipush 10, 2) := by decide +kernel
theorem dX2_init_72 : decode cX2_init 72 = .ok (.newarray .long, 2) := by decide +kernel
theorem dX2_init_74 : decode cX2_init 74 = .ok (.putfield 41, 3) := by decide +kernel
theorem dX2_init_77 : decode cX2_init 77 = .ok (.aload_n 0, 1) := by decide +kernel
theorem dX2_init_78 : decode cX2_init 78 = .ok (.iconst 4, 1) := by decide +kernel
theorem dX2_init_79 : decode cX2_init 79 = .ok (.iconst 1, 1) := by decide +kernel
theorem dX2_init_80 : decode cX2_init 80 = .ok (.ldc 44, 2) := by decide +kernel
theorem dX2_init_82 : decode cX2_init 82 = .ok (.invokevirtual 45, 3) := by decide +kernel
theorem dX2_init_85 : decode cX2_init 85 = .ok (.return_, 1) := by decide +kernel
theorem dX2_reset_0 : decode cX2_reset 0 = .ok (.iload_n 1, 1) := by decide +kernel
theorem dX2_reset_1 : decode cX2_reset 1 = .ok (.iconst 2, 1) := by decide +kernel
theorem dX2_reset_2 : decode cX2_reset 2 = .ok (.bipush 10, 2) := by decide +kernel
theorem dX2_reset_4 : decode cX2_reset 4 = .ok (.invokestatic 49, 3) := by decide +kernel
theorem dX2_reset_7 : decode cX2_reset 7 = .ok (.ifCond .eq 22, 3) := by decide +kernel
theorem dX2_reset_10 : decode cX2_reset 10 = .ok (.iload_n 2, 1) := by decide +kernel
theorem dX2_reset_11 : decode cX2_reset 11 = .ok (.iconst 0, 1) := by decide +kernel
theorem dX2_reset_12 : decode cX2_reset 12 = .ok (.iconst 3, 1) := by decide +kernel
theorem dX2_reset_13 : decode cX2_reset 13 = .ok (.invokestatic 49, 3) := by decide +kernel
theorem dX2_reset_16 : decode cX2_reset 16 = .ok (.ifCond .eq 13, 3) := by decide +kernel
theorem dX2_reset_19 : decode cX2_reset 19 = .ok (.iload_n 3, 1) := by decide +kernel
theorem dX2_reset_20 : decode cX2_reset 20 = .ok (.iconst 1, 1) := by decide +kernel
theorem dX2_reset_21 : decode cX2_reset 21 = .ok (.ldc 44, 2) := by decide +kernel
theorem dX2_reset_23 : decode cX2_reset 23 = .ok (.invokestatic 49, 3) := by decide +kernel
theorem dX2_reset_26 : decode cX2_reset 26 = .ok (.ifCond .ne 7, 3) := by decide +kernel
theorem dX2_reset_29 : decode cX2_reset 29 = .ok (.sipush (-1002), 3) := by decide +kernel
theorem dX2_reset_32 : decode cX2_reset 32 = .ok (.ireturn, 1) := by decide +kernel
theorem dX2_reset_33 : decode cX2_reset 33 = .ok (.aload_n 0, 1) := by decide +kernel
theorem dX2_reset_34 : decode cX2_reset 34 = .ok (.getfield 53, 3) := by decide +kernel
theorem dX2_reset_37 : decode cX2_reset 37 = .ok (.istore 4, 2) := by decide +kernel
theorem dX2_reset_39 : decode cX2_reset 39 = .ok (.aload_n 0, 1) := by decide +kernel
theorem dX2_reset_40 : decode cX2_reset 40 = .ok (.iload_n 1, 1) := by decide +kernel
theorem dX2_reset_41 : decode cX2_reset 41 = .ok (.iload_n 2, 1) := by decide +kernel
theorem dX2_reset_42 : decode cX2_reset 42 = .ok (.iload_n 3, 1) := by decide +kernel
theorem dX2_reset_43 : decode cX2_reset 43 = .ok (.invokevirtual 45, 3) := by decide +kernel
theorem dX2_reset_46 : decode cX2_reset 46 = .ok (.iload 4, 2) := by decide +kernel
theorem dX2_reset_48 : decode cX2_reset 48 = .ok (.ireturn, 1) := by decide +kernel
theorem dX2_type_0 : decode cX2_type 0 = .ok (.aload_n 0, 1) := by decide +kernel
theorem dX2_type_1 : decode cX2_type 1 = .ok (.getfield 12, 3) := by decide +kernel
theorem dX2_type_4 : decode cX2_type 4 = .ok (.iload_n 1, 1) := by decide +kernel
theorem dX2_type_5 : decode cX2_type 5 = .ok (.invokevirtual 57, 3) := by decide +kernel
theorem dX2_type_8 : decode cX2_type 8 = .ok (.ifCond .eq 13, 3) := by decide +kernel
theorem dX2_type_11 : decode cX2_type 11 = .ok (.aload_n 0, 1) := by decide +kernel
theorem dX2_type_12 : decode cX2_type 12 = .ok (.getfield 12, 3) := by decide +kernel
theorem dX2_type_15 : decode cX2_type 15 = .ok (.invokevirtual 61, 3) := by decide +kernel
theorem dX2_type_18 : decode cX2_type 18 = .ok (.goto 6, 3) := by decide +kernel
theorem dX2_type_21 : decode cX2_type 21 = .ok (.sipush (-1004), 3) := by decide +kernel
theorem dX2_type_24 : decode cX2_type 24 = .ok (.ireturn, 1) := by decide +kernel
theorem dX2_clearText_0 : decode cX2_clearText 0 = .ok (.aload_n 0, 1) := by decide +kernel
theorem dX2_clearText_1 : decode cX2_clearText 1 = .ok (.getfield 12, 3) := by decide +kernel
theorem dX2_clearText_4 : decode cX2_clearText 4 = .ok (.invokevirtual 65, 3) := by decide +kernel
theorem dX2_clearText_7 : decode cX2_clearText 7 = .ok (.ireturn, 1) := by decide +kernel
theorem dX2_readInput_0 : decode cX2_readInput 0 = .ok (.aload_n 0, 1) := by decide +kernel
theorem dX2_readInput_1 : decode cX2_readInput 1 = .ok (.iload_n 1, 1) := by decide +kernel
theorem dX2_readInput_2 : decode cX2_readInput 2 = .ok (.invokevirtual 68, 3) := by decide +kernel
theorem dX2_readInput_5 : decode cX2_readInput 5 = .ok (.ifCond .ne 7, 3) := by decide +kernel
theorem dX2_readInput_8 : decode cX2_readInput 8 = .ok (.sipush (-1001), 3) := by decide +kernel
theorem dX2_readInput_11 : decode cX2_readInput 11 = .ok (.ireturn, 1) := by decide +kernel
theorem dX2_readInput_12 : decode cX2_readInput 12 = .ok (.aload_n 0, 1) := by decide +kernel
theorem dX2_readInput_13 : decode cX2_readInput 13 = .ok (.getfield 72, 3) := by decide +kernel
theorem dX2_readInput_16 : decode cX2_readInput 16 = .ok (.ifCond .eq 7, 3) := by decide +kernel
theorem dX2_readInput_19 : decode cX2_readInput 19 = .ok (.sipush (-1003), 3) := by decide +kernel
theorem dX2_readInput_22 : decode cX2_readInput 22 = .ok (.ireturn, 1) := by decide +kernel
theorem dX2_readInput_23 : decode cX2_readInput 23 = .ok (.aload_n 0, 1) := by decide +kernel
theorem dX2_readInput_24 : decode cX2_readInput 24 = .ok (.aload_n 0, 1) := by decide +kernel
theorem dX2_readInput_25 : decode cX2_readInput 25 = .ok (.getfield 23, 3) := by decide +kernel
theorem dX2_readInput_28 : decode cX2_readInput 28 = .ok (.iconst 0, 1) := by decide +kernel
theorem dX2_readInput_29 : decode cX2_readInput 29 = .ok (.iload_n 1, 1) := by decide +kernel
theorem dX2_readInput_30 : decode cX2_readInput 30 = .ok (.invokevirtual 75, 3) := by decide +kernel
theorem dX2_readInput_33 : decode cX2_readInput 33 = .ok (.ireturn, 1) := by decide +kernel
theorem dX2_readLie_0 : decode cX2_readLie 0 = .ok (.aload_n 0, 1) := by decide +kernel
theorem dX2_readLie_1 : decode cX2_readLie 1 = .ok (.iload_n 1, 1) := by decide +kernel
theorem dX2_readLie_2 : decode cX2_readLie 2 = .ok (.iload_n 2, 1) := by decide +kernel
theorem dX2_readLie_3 : decode cX2_readLie 3 = .ok (.invokevirtual 79, 3) := by decide +kernel
theorem dX2_readLie_6 : decode cX2_readLie 6 = .ok (.ifCond .ne 7, 3) := by decide +kernel
theorem dX2_readLie_9 : decode cX2_readLie 9 = .ok (.sipush (-1001), 3) := by decide +kernel
theorem dX2_readLie_12 : decode cX2_readLie 12 = .ok (.ireturn, 1) := by decide +kernel
theorem dX2_readLie_13 : decode cX2_readLie 13 = .ok (.aload_n 0, 1) := by decide +kernel
theorem dX2_readLie_14 : decode cX2_readLie 14 = .ok (.aload_n 0, 1) := by decide +kernel
theorem dX2_readLie_15 : decode cX2_readLie 15 = .ok (.getfield 27, 3) := by decide +kernel
theorem dX2_readLie_18 : decode cX2_readLie 18 = .ok (.iload_n 1, 1) := by decide +kernel
theorem dX2_readLie_19 : decode cX2_readLie 19 = .ok (.iload_n 2, 1) := by decide +kernel
theorem dX2_readLie_20 : decode cX2_readLie 20 = .ok (.invokevirtual 75, 3) := by decide +kernel
theorem dX2_readLie_23 : decode cX2_readLie 23 = .ok (.ireturn, 1) := by decide +kernel
theorem dX2_setFaulty_0 : decode cX2_setFaulty 0 = .ok (.aload_n 0, 1) := by decide +kernel
theorem dX2_setFaulty_1 : decode cX2_setFaulty 1 = .ok (.iload_n 1, 1) := by decide +kernel
theorem dX2_setFaulty_2 : decode cX2_setFaulty 2 = .ok (.invokevirtual 68, 3) := by decide +kernel
theorem dX2_setFaulty_5 : decode cX2_setFaulty 5 = .ok (.ifCond .ne 7, 3) := by decide +kernel
theorem dX2_setFaulty_8 : decode cX2_setFaulty 8 = .ok (.sipush (-1001), 3) := by decide +kernel
theorem dX2_setFaulty_11 : decode cX2_setFaulty 11 = .ok (.ireturn, 1) := by decide +kernel
theorem dX2_setFaulty_12 : decode cX2_setFaulty 12 = .ok (.iload_n 2, 1) := by decide +kernel
theorem dX2_setFaulty_13 : decode cX2_setFaulty 13 = .ok (.iconst 1, 1) := by decide +kernel
theorem dX2_setFaulty_14 : decode cX2_setFaulty 14 = .ok (.iconst 5, 1) := by decide +kernel
theorem dX2_setFaulty_15 : decode cX2_setFaulty 15 = .ok (.invokestatic 49, 3) := by decide +kernel
theorem dX2_setFaulty_18 : decode cX2_setFaulty 18 = .ok (.ifCond .eq 44, 3) := by decide +kernel
theorem dX2_setFaulty_21 : decode cX2_setFaulty 21 = .ok (.iload_n 3, 1) := by decide +kernel
theorem dX2_setFaulty_22 : decode cX2_setFaulty 22 = .ok (.sipush (-1000), 3) := by decide +kernel
theorem dX2_setFaulty_25 : decode cX2_setFaulty 25 = .ok (.sipush 1000, 3) := by decide +kernel
theorem dX2_setFaulty_28 : decode cX2_setFaulty 28 = .ok (.invokestatic 49, 3) := by decide +kernel
theorem dX2_setFaulty_31 : decode cX2_setFaulty 31 = .ok (.ifCond .eq 31, 3) := by decide +kernel
theorem dX2_setFaulty_34 : decode cX2_setFaulty 34 = .ok (.iload 4, 2) := by decide +kernel
theorem dX2_setFaulty_36 : decode cX2_setFaulty 36 = .ok (.iconst 1, 1) := by decide +kernel
theorem dX2_setFaulty_37 : decode cX2_setFaulty 37 = .ok (.sipush 1000, 3) := by decide +kernel
theorem dX2_setFaulty_40 : decode cX2_setFaulty 40 = .ok (.invokestatic 49, 3) := by decide +kernel
theorem dX2_setFaulty_43 : decode cX2_setFaulty 43 = .ok (.ifCond .eq 19, 3) := by decide +kernel
theorem dX2_setFaulty_46 : decode cX2_setFaulty 46 = .ok (.iload_n 3, 1) := by decide +kernel
theorem dX2_setFaulty_47 : decode cX2_setFaulty 47 = .ok (.i2l, 1) := by decide +kernel
theorem dX2_setFaulty_48 : decode cX2_setFaulty 48 = .ok (.iload 4, 2) := by decide +kernel
theorem dX2_setFaulty_50 : decode cX2_setFaulty 50 = .ok (.i2l, 1) := by decide +kernel
theorem dX2_setFaulty_51 : decode cX2_setFaulty 51 = .ok (.aload_n 0, 1) := by decide +kernel
theorem dX2_setFaulty_52 : decode cX2_setFaulty 52 = .ok (.getfield 83, 3) := by decide +kernel
theorem dX2_setFaulty_55 : decode cX2_setFaulty 55 = .ok (.i2l, 1) := by decide +kernel
theorem dX2_setFaulty_56 : decode cX2_setFaulty 56 = .ok (.invokestatic 86, 3) := by decide +kernel
theorem dX2_setFaulty_59 : decode cX2_setFaulty 59 = .ok (.ifCond .ne 7, 3) := by decide +kernel
theorem dX2_setFaulty_62 : decode cX2_setFaulty 62 = .ok (.sipush (-1002), 3) := by decide +kernel
theorem dX2_setFaulty_65 : decode cX2_setFaulty 65 = .ok (.ireturn, 1) := by decide +kernel
theorem dX2_setFaulty_66 : decode cX2_setFaulty 66 = .ok (.aload_n 0, 1) := by decide +kernel
theorem dX2_setFaulty_67 : decode cX2_setFaulty 67 = .ok (.getfield 72, 3) := by decide +kernel
theorem dX2_setFaulty_70 : decode cX2_setFaulty 70 = .ok (.ifCond .eq 7, 3) := by decide +kernel
theorem dX2_setFaulty_73 : decode cX2_setFaulty 73 = .ok (.sipush (-1003), 3) := by decide +kernel
theorem dX2_setFaulty_76 : decode cX2_setFaulty 76 = .ok (.ireturn, 1) := by decide +kernel
theorem dX2_setFaulty_77 : decode cX2_setFaulty 77 = .ok (.aload_n 0, 1) := by decide +kernel
theorem dX2_setFaulty_78 : decode cX2_setFaulty 78 = .ok (.getfield 34, 3) := by decide +kernel
theorem dX2_setFaulty_81 : decode cX2_setFaulty 81 = .ok (.iload_n 1, 1) := by decide +kernel
theorem dX2_setFaulty_82 : decode cX2_setFaulty 82 = .ok (.iaload, 1) := by decide +kernel
theorem dX2_setFaulty_83 : decode cX2_setFaulty 83 = .ok (.istore 5, 2) := by decide +kernel
theorem dX2_setFaulty_85 : decode cX2_setFaulty 85 = .ok (.aload_n 0, 1) := by decide +kernel
theorem dX2_setFaulty_86 : decode cX2_setFaulty 86 = .ok (.getfield 34, 3) := by decide +kernel
theorem dX2_setFaulty_89 : decode cX2_setFaulty 89 = .ok (.iload_n 1, 1) := by decide +kernel
theorem dX2_setFaulty_90 : decode cX2_setFaulty 90 = .ok (.iload_n 2, 1) := by decide +kernel
theorem dX2_setFaulty_91 : decode cX2_setFaulty 91 = .ok (.iastore, 1) := by decide +kernel
theorem dX2_setFaulty_92 : decode cX2_setFaulty 92 = .ok (.aload_n 0, 1) := by decide +kernel
theorem dX2_setFaulty_93 : decode cX2_setFaulty 93 = .ok (.getfield 37, 3) := by decide +kernel
theorem dX2_setFaulty_96 : decode cX2_setFaulty 96 = .ok (.iload_n 1, 1) := by decide +kernel
theorem dX2_setFaulty_97 : decode cX2_setFaulty 97 = .ok (.iload_n 3, 1) := by decide +kernel
theorem dX2_setFaulty_98 : decode cX2_setFaulty 98 = .ok (.i2l, 1) := by decide +kernel
theorem dX2_setFaulty_99 : decode cX2_setFaulty 99 = .ok (.iload 4, 2) := by decide +kernel
theorem dX2_setFaulty_101 : decode cX2_setFaulty 101 = .ok (.i2l, 1) := by decide +kernel
theorem dX2_setFaulty_102 : decode cX2_setFaulty 102 = .ok (.aload_n 0, 1) := by decide +kernel
theorem dX2_setFaulty_103 : decode cX2_setFaulty 103 = .ok (.getfield 83, 3) := by decide +kernel
theorem dX2_setFaulty_106 : decode cX2_setFaulty 106 = .ok (.i2l, 1) := by decide +kernel
theorem dX2_setFaulty_107 : decode cX2_setFaulty 107 = .ok (.invokestatic 90, 3) := by decide +kernel
theorem dX2_setFaulty_110 : decode cX2_setFaulty 110 = .ok (.lastore, 1) := by decide +kernel
theorem dX2_setFaulty_111 : decode cX2_setFaulty 111 = .ok (.iload 5, 2) := by decide +kernel
theorem dX2_setFaulty_113 : decode cX2_setFaulty 113 = .ok (.ireturn, 1) := by decide +kernel
theorem dX2_setCorrect_0 : decode cX2_setCorrect 0 = .ok (.aload_n 0, 1) := by decide +kernel
theorem dX2_setCorrect_1 : decode cX2_setCorrect 1 = .ok (.iload_n 1, 1) := by decide +kernel
theorem dX2_setCorrect_2 : decode cX2_setCorrect 2 = .ok (.invokevirtual 68, 3) := by decide +kernel
theorem dX2_setCorrect_5 : decode cX2_setCorrect 5 = .ok (.ifCond .ne 7, 3) := by decide +kernel
theorem dX2_setCorrect_8 : decode cX2_setCorrect 8 = .ok (.sipush (-1001), 3) := by decide +kernel
theorem dX2_setCorrect_11 : decode cX2_setCorrect 11 = .ok (.ireturn, 1) := by decide +kernel
theorem dX2_setCorrect_12 : decode cX2_setCorrect 12 = .ok (.aload_n 0, 1) := by decide +kernel
theorem dX2_setCorrect_13 : decode cX2_setCorrect 13 = .ok (.getfield 72, 3) := by decide +kernel
theorem dX2_setCorrect_16 : decode cX2_setCorrect 16 = .ok (.ifCond .eq 7, 3) := by decide +kernel
theorem dX2_setCorrect_19 : decode cX2_setCorrect 19 = .ok (.sipush (-1003), 3) := by decide +kernel
theorem dX2_setCorrect_22 : decode cX2_setCorrect 22 = .ok (.ireturn, 1) := by decide +kernel
theorem dX2_setCorrect_23 : decode cX2_setCorrect 23 = .ok (.aload_n 0, 1) := by decide +kernel
theorem dX2_setCorrect_24 : decode cX2_setCorrect 24 = .ok (.getfield 34, 3) := by decide +kernel
theorem dX2_setCorrect_27 : decode cX2_setCorrect 27 = .ok (.iload_n 1, 1) := by decide +kernel
theorem dX2_setCorrect_28 : decode cX2_setCorrect 28 = .ok (.iaload, 1) := by decide +kernel
theorem dX2_setCorrect_29 : decode cX2_setCorrect 29 = .ok (.istore_n 2, 1) := by decide +kernel
theorem dX2_setCorrect_30 : decode cX2_setCorrect 30 = .ok (.aload_n 0, 1) := by decide +kernel
theorem dX2_setCorrect_31 : decode cX2_setCorrect 31 = .ok (.getfield 34, 3) := by decide +kernel
theorem dX2_setCorrect_34 : decode cX2_setCorrect 34 = .ok (.iload_n 1, 1) := by decide +kernel
theorem dX2_setCorrect_35 : decode cX2_setCorrect 35 = .ok (.iconst 0, 1) := by decide +kernel
theorem dX2_setCorrect_36 : decode cX2_setCorrect 36 = .ok (.iastore, 1) := by decide +kernel
theorem dX2_setCorrect_37 : decode cX2_setCorrect 37 = .ok (.iload_n 2, 1) := by decide +kernel
theorem dX2_setCorrect_38 : decode cX2_setCorrect 38 = .ok (.ireturn, 1) := by decide +kernel
theorem dX2_setLink_0 : decode cX2_setLink 0 = .ok (.aload_n 0, 1) := by decide +kernel
theorem dX2_setLink_1 : decode cX2_setLink 1 = .ok (.iload_n 1, 1) := by decide +kernel
theorem dX2_setLink_2 : decode cX2_setLink 2 = .ok (.iload_n 2, 1) := by decide +kernel
theorem dX2_setLink_3 : decode cX2_setLink 3 = .ok (.invokevirtual 79, 3) := by decide +kernel
theorem dX2_setLink_6 : decode cX2_setLink 6 = .ok (.ifCond .ne 7, 3) := by decide +kernel
theorem dX2_setLink_9 : decode cX2_setLink 9 = .ok (.sipush (-1001), 3) := by decide +kernel
theorem dX2_setLink_12 : decode cX2_setLink 12 = .ok (.ireturn, 1) := by decide +kernel
theorem dX2_setLink_13 : decode cX2_setLink 13 = .ok (.iload_n 3, 1) := by decide +kernel
theorem dX2_setLink_14 : decode cX2_setLink 14 = .ok (.iconst (-1), 1) := by decide +kernel
theorem dX2_setLink_15 : decode cX2_setLink 15 = .ok (.iconst 3, 1) := by decide +kernel
theorem dX2_setLink_16 : decode cX2_setLink 16 = .ok (.invokestatic 49, 3) := by decide +kernel
theorem dX2_setLink_19 : decode cX2_setLink 19 = .ok (.ifCond .ne 7, 3) := by decide +kernel
theorem dX2_setLink_22 : decode cX2_setLink 22 = .ok (.sipush (-1002), 3) := by decide +kernel
theorem dX2_setLink_25 : decode cX2_setLink 25 = .ok (.ireturn, 1) := by decide +kernel
theorem dX2_setLink_26 : decode cX2_setLink 26 = .ok (.aload_n 0, 1) := by decide +kernel
theorem dX2_setLink_27 : decode cX2_setLink 27 = .ok (.iload_n 1, 1) := by decide +kernel
theorem dX2_setLink_28 : decode cX2_setLink 28 = .ok (.iload_n 2, 1) := by decide +kernel
theorem dX2_setLink_29 : decode cX2_setLink 29 = .ok (.invokevirtual 94, 3) := by decide +kernel
theorem dX2_setLink_32 : decode cX2_setLink 32 = .ok (.istore 4, 2) := by decide +kernel
theorem dX2_setLink_34 : decode cX2_setLink 34 = .ok (.aload_n 0, 1) := by decide +kernel
theorem dX2_setLink_35 : decode cX2_setLink 35 = .ok (.getfield 30, 3) := by decide +kernel
theorem dX2_setLink_38 : decode cX2_setLink 38 = .ok (.iload_n 1, 1) := by decide +kernel
theorem dX2_setLink_39 : decode cX2_setLink 39 = .ok (.bipush 10, 2) := by decide +kernel
theorem dX2_setLink_41 : decode cX2_setLink 41 = .ok (.imul, 1) := by decide +kernel
theorem dX2_setLink_42 : decode cX2_setLink 42 = .ok (.iload_n 2, 1) := by decide +kernel
theorem dX2_setLink_43 : decode cX2_setLink 43 = .ok (.iadd, 1) := by decide +kernel
theorem dX2_setLink_44 : decode cX2_setLink 44 = .ok (.iload_n 3, 1) := by decide +kernel
theorem dX2_setLink_45 : decode cX2_setLink 45 = .ok (.iastore, 1) := by decide +kernel
theorem dX2_setLink_46 : decode cX2_setLink 46 = .ok (.iload 4, 2) := by decide +kernel
theorem dX2_setLink_48 : decode cX2_setLink 48 = .ok (.ireturn, 1) := by decide +kernel
theorem dX2_setRule_0 : decode cX2_setRule 0 = .ok (.iload_n 1, 1) := by decide +kernel
theorem dX2_setRule_1 : decode cX2_setRule 1 = .ok (.iconst 0, 1) := by decide +kernel
theorem dX2_setRule_2 : decode cX2_setRule 2 = .ok (.iconst 3, 1) := by decide +kernel
theorem dX2_setRule_3 : decode cX2_setRule 3 = .ok (.invokestatic 49, 3) := by decide +kernel
theorem dX2_setRule_6 : decode cX2_setRule 6 = .ok (.ifCond .ne 7, 3) := by decide +kernel
theorem dX2_setRule_9 : decode cX2_setRule 9 = .ok (.sipush (-1002), 3) := by decide +kernel
theorem dX2_setRule_12 : decode cX2_setRule 12 = .ok (.ireturn, 1) := by decide +kernel
theorem dX2_setRule_13 : decode cX2_setRule 13 = .ok (.aload_n 0, 1) := by decide +kernel
theorem dX2_setRule_14 : decode cX2_setRule 14 = .ok (.getfield 98, 3) := by decide +kernel
theorem dX2_setRule_17 : decode cX2_setRule 17 = .ok (.istore_n 2, 1) := by decide +kernel
theorem dX2_setRule_18 : decode cX2_setRule 18 = .ok (.aload_n 0, 1) := by decide +kernel
theorem dX2_setRule_19 : decode cX2_setRule 19 = .ok (.iload_n 1, 1) := by decide +kernel
theorem dX2_setRule_20 : decode cX2_setRule 20 = .ok (.putfield 98, 3) := by decide +kernel
theorem dX2_setRule_23 : decode cX2_setRule 23 = .ok (.iload_n 2, 1) := by decide +kernel
theorem dX2_setRule_24 : decode cX2_setRule 24 = .ok (.ireturn, 1) := by decide +kernel
theorem dX2_count_0 : decode cX2_count 0 = .ok (.iload_n 1, 1) := by decide +kernel
theorem dX2_count_1 : decode cX2_count 1 = .ok (.tableswitch 88 0 7 #[47, 52, 57, 62, 67, 72, 77, 83], 47) := by decide +kernel
theorem dX2_count_48 : decode cX2_count 48 = .ok (.aload_n 0, 1) := by decide +kernel
theorem dX2_count_49 : decode cX2_count 49 = .ok (.getfield 53, 3) := by decide +kernel
theorem dX2_count_52 : decode cX2_count 52 = .ok (.ireturn, 1) := by decide +kernel
theorem dX2_count_53 : decode cX2_count 53 = .ok (.aload_n 0, 1) := by decide +kernel
theorem dX2_count_54 : decode cX2_count 54 = .ok (.getfield 101, 3) := by decide +kernel
theorem dX2_count_57 : decode cX2_count 57 = .ok (.ireturn, 1) := by decide +kernel
theorem dX2_count_58 : decode cX2_count 58 = .ok (.aload_n 0, 1) := by decide +kernel
theorem dX2_count_59 : decode cX2_count 59 = .ok (.getfield 83, 3) := by decide +kernel
theorem dX2_count_62 : decode cX2_count 62 = .ok (.ireturn, 1) := by decide +kernel
theorem dX2_count_63 : decode cX2_count 63 = .ok (.aload_n 0, 1) := by decide +kernel
theorem dX2_count_64 : decode cX2_count 64 = .ok (.getfield 72, 3) := by decide +kernel
theorem dX2_count_67 : decode cX2_count 67 = .ok (.ireturn, 1) := by decide +kernel
theorem dX2_count_68 : decode cX2_count 68 = .ok (.aload_n 0, 1) := by decide +kernel
theorem dX2_count_69 : decode cX2_count 69 = .ok (.invokevirtual 104, 3) := by decide +kernel
theorem dX2_count_72 : decode cX2_count 72 = .ok (.ireturn, 1) := by decide +kernel
theorem dX2_count_73 : decode cX2_count 73 = .ok (.aload_n 0, 1) := by decide +kernel
theorem dX2_count_74 : decode cX2_count 74 = .ok (.getfield 98, 3) := by decide +kernel
theorem dX2_count_77 : decode cX2_count 77 = .ok (.ireturn, 1) := by decide +kernel
theorem dX2_count_78 : decode cX2_count 78 = .ok (.aload_n 0, 1) := by decide +kernel
theorem dX2_count_79 : decode cX2_count 79 = .ok (.iconst 3, 1) := by decide +kernel
theorem dX2_count_80 : decode cX2_count 80 = .ok (.invokevirtual 107, 3) := by decide +kernel
theorem dX2_count_83 : decode cX2_count 83 = .ok (.ireturn, 1) := by decide +kernel
theorem dX2_count_84 : decode cX2_count 84 = .ok (.aload_n 0, 1) := by decide +kernel
theorem dX2_count_85 : decode cX2_count 85 = .ok (.invokevirtual 111, 3) := by decide +kernel
theorem dX2_count_88 : decode cX2_count 88 = .ok (.ireturn, 1) := by decide +kernel
theorem dX2_count_89 : decode cX2_count 89 = .ok (.sipush (-1002), 3) := by decide +kernel
theorem dX2_count_92 : decode cX2_count 92 = .ok (.ireturn, 1) := by decide +kernel
theorem dX2_strategy_0 : decode cX2_strategy 0 = .ok (.aload_n 0, 1) := by decide +kernel
theorem dX2_strategy_1 : decode cX2_strategy 1 = .ok (.iload_n 1, 1) := by decide +kernel
theorem dX2_strategy_2 : decode cX2_strategy 2 = .ok (.invokevirtual 68, 3) := by decide +kernel
theorem dX2_strategy_5 : decode cX2_strategy 5 = .ok (.ifCond .eq 12, 3) := by decide +kernel
theorem dX2_strategy_8 : decode cX2_strategy 8 = .ok (.aload_n 0, 1) := by decide +kernel
theorem dX2_strategy_9 : decode cX2_strategy 9 = .ok (.getfield 34, 3) := by decide +kernel
theorem dX2_strategy_12 : decode cX2_strategy 12 = .ok (.iload_n 1, 1) := by decide +kernel
theorem dX2_strategy_13 : decode cX2_strategy 13 = .ok (.iaload, 1) := by decide +kernel
theorem dX2_strategy_14 : decode cX2_strategy 14 = .ok (.goto 6, 3) := by decide +kernel
theorem dX2_strategy_17 : decode cX2_strategy 17 = .ok (.sipush (-1001), 3) := by decide +kernel
theorem dX2_strategy_20 : decode cX2_strategy 20 = .ok (.ireturn, 1) := by decide +kernel
theorem dX2_run_0 : decode cX2_run 0 = .ok (.iload_n 1, 1) := by decide +kernel
theorem dX2_run_1 : decode cX2_run 1 = .ok (.iconst 1, 1) := by decide +kernel
theorem dX2_run_2 : decode cX2_run 2 = .ok (.bipush 60, 2) := by decide +kernel
theorem dX2_run_4 : decode cX2_run 4 = .ok (.invokestatic 49, 3) := by decide +kernel
theorem dX2_run_7 : decode cX2_run 7 = .ok (.ifCond .ne 7, 3) := by decide +kernel
theorem dX2_run_10 : decode cX2_run 10 = .ok (.sipush (-1002), 3) := by decide +kernel
theorem dX2_run_13 : decode cX2_run 13 = .ok (.ireturn, 1) := by decide +kernel
theorem dX2_run_14 : decode cX2_run 14 = .ok (.aload_n 0, 1) := by decide +kernel
theorem dX2_run_15 : decode cX2_run 15 = .ok (.getfield 72, 3) := by decide +kernel
theorem dX2_run_18 : decode cX2_run 18 = .ok (.iload_n 1, 1) := by decide +kernel
theorem dX2_run_19 : decode cX2_run 19 = .ok (.iadd, 1) := by decide +kernel
theorem dX2_run_20 : decode cX2_run 20 = .ok (.bipush 60, 2) := by decide +kernel
theorem dX2_run_22 : decode cX2_run 22 = .ok (.if_icmp .le 7, 3) := by decide +kernel
theorem dX2_run_25 : decode cX2_run 25 = .ok (.sipush (-1004), 3) := by decide +kernel
theorem dX2_run_28 : decode cX2_run 28 = .ok (.ireturn, 1) := by decide +kernel
theorem dX2_run_29 : decode cX2_run 29 = .ok (.aload_n 0, 1) := by decide +kernel
theorem dX2_run_30 : decode cX2_run 30 = .ok (.iload_n 1, 1) := by decide +kernel
theorem dX2_run_31 : decode cX2_run 31 = .ok (.invokevirtual 114, 3) := by decide +kernel
theorem dX2_run_34 : decode cX2_run 34 = .ok (.aload_n 0, 1) := by decide +kernel
theorem dX2_run_35 : decode cX2_run 35 = .ok (.getfield 72, 3) := by decide +kernel
theorem dX2_run_38 : decode cX2_run 38 = .ok (.ireturn, 1) := by decide +kernel
theorem dX2_runTo_0 : decode cX2_runTo 0 = .ok (.iload_n 1, 1) := by decide +kernel
theorem dX2_runTo_1 : decode cX2_runTo 1 = .ok (.iload_n 2, 1) := by decide +kernel
theorem dX2_runTo_2 : decode cX2_runTo 2 = .ok (.iload_n 3, 1) := by decide +kernel
theorem dX2_runTo_3 : decode cX2_runTo 3 = .ok (.invokestatic 118, 3) := by decide +kernel
theorem dX2_runTo_6 : decode cX2_runTo 6 = .ok (.ifCond .ne 7, 3) := by decide +kernel
theorem dX2_runTo_9 : decode cX2_runTo 9 = .ok (.sipush (-1002), 3) := by decide +kernel
theorem dX2_runTo_12 : decode cX2_runTo 12 = .ok (.ireturn, 1) := by decide +kernel
theorem dX2_runTo_13 : decode cX2_runTo 13 = .ok (.aload_n 0, 1) := by decide +kernel
theorem dX2_runTo_14 : decode cX2_runTo 14 = .ok (.getfield 72, 3) := by decide +kernel
theorem dX2_runTo_17 : decode cX2_runTo 17 = .ok (.istore 4, 2) := by decide +kernel
theorem dX2_runTo_19 : decode cX2_runTo 19 = .ok (.aload_n 0, 1) := by decide +kernel
theorem dX2_runTo_20 : decode cX2_runTo 20 = .ok (.iload_n 1, 1) := by decide +kernel
theorem dX2_runTo_21 : decode cX2_runTo 21 = .ok (.iload_n 2, 1) := by decide +kernel
theorem dX2_runTo_22 : decode cX2_runTo 22 = .ok (.iload_n 3, 1) := by decide +kernel
theorem dX2_runTo_23 : decode cX2_runTo 23 = .ok (.invokevirtual 121, 3) := by decide +kernel
theorem dX2_runTo_26 : decode cX2_runTo 26 = .ok (.istore 5, 2) := by decide +kernel
theorem dX2_runTo_28 : decode cX2_runTo 28 = .ok (.iload 5, 2) := by decide +kernel
theorem dX2_runTo_30 : decode cX2_runTo 30 = .ok (.sipush (-1005), 3) := by decide +kernel
theorem dX2_runTo_33 : decode cX2_runTo 33 = .ok (.if_icmp .ne 9, 3) := by decide +kernel
theorem dX2_runTo_36 : decode cX2_runTo 36 = .ok (.aload_n 0, 1) := by decide +kernel
theorem dX2_runTo_37 : decode cX2_runTo 37 = .ok (.iload 4, 2) := by decide +kernel
theorem dX2_runTo_39 : decode cX2_runTo 39 = .ok (.putfield 72, 3) := by decide +kernel
theorem dX2_runTo_42 : decode cX2_runTo 42 = .ok (.iload 5, 2) := by decide +kernel
theorem dX2_runTo_44 : decode cX2_runTo 44 = .ok (.ireturn, 1) := by decide +kernel
theorem dX2_back_0 : decode cX2_back 0 = .ok (.iload_n 1, 1) := by decide +kernel
theorem dX2_back_1 : decode cX2_back 1 = .ok (.iconst 0, 1) := by decide +kernel
theorem dX2_back_2 : decode cX2_back 2 = .ok (.aload_n 0, 1) := by decide +kernel
theorem dX2_back_3 : decode cX2_back 3 = .ok (.getfield 72, 3) := by decide +kernel
theorem dX2_back_6 : decode cX2_back 6 = .ok (.invokestatic 49, 3) := by decide +kernel
theorem dX2_back_9 : decode cX2_back 9 = .ok (.ifCond .ne 7, 3) := by decide +kernel
theorem dX2_back_12 : decode cX2_back 12 = .ok (.sipush (-1002), 3) := by decide +kernel
theorem dX2_back_15 : decode cX2_back 15 = .ok (.ireturn, 1) := by decide +kernel
theorem dX2_back_16 : decode cX2_back 16 = .ok (.aload_n 0, 1) := by decide +kernel
theorem dX2_back_17 : decode cX2_back 17 = .ok (.dup, 1) := by decide +kernel
theorem dX2_back_18 : decode cX2_back 18 = .ok (.getfield 72, 3) := by decide +kernel
theorem dX2_back_21 : decode cX2_back 21 = .ok (.iload_n 1, 1) := by decide +kernel
theorem dX2_back_22 : decode cX2_back 22 = .ok (.isub, 1) := by decide +kernel
theorem dX2_back_23 : decode cX2_back 23 = .ok (.putfield 72, 3) := by decide +kernel
theorem dX2_back_26 : decode cX2_back 26 = .ok (.aload_n 0, 1) := by decide +kernel
theorem dX2_back_27 : decode cX2_back 27 = .ok (.getfield 72, 3) := by decide +kernel
theorem dX2_back_30 : decode cX2_back 30 = .ok (.ireturn, 1) := by decide +kernel
theorem dX2_value_0 : decode cX2_value 0 = .ok (.aload_n 0, 1) := by decide +kernel
theorem dX2_value_1 : decode cX2_value 1 = .ok (.iload_n 1, 1) := by decide +kernel
theorem dX2_value_2 : decode cX2_value 2 = .ok (.invokevirtual 125, 3) := by decide +kernel
theorem dX2_value_5 : decode cX2_value 5 = .ok (.ifCond .eq 15, 3) := by decide +kernel
theorem dX2_value_8 : decode cX2_value 8 = .ok (.iload_n 2, 1) := by decide +kernel
theorem dX2_value_9 : decode cX2_value 9 = .ok (.iconst 0, 1) := by decide +kernel
theorem dX2_value_10 : decode cX2_value 10 = .ok (.aload_n 0, 1) := by decide +kernel
theorem dX2_value_11 : decode cX2_value 11 = .ok (.getfield 72, 3) := by decide +kernel
theorem dX2_value_14 : decode cX2_value 14 = .ok (.invokestatic 49, 3) := by decide +kernel
theorem dX2_value_17 : decode cX2_value 17 = .ok (.ifCond .ne 7, 3) := by decide +kernel
theorem dX2_value_20 : decode cX2_value 20 = .ok (.ldc2_w 128, 3) := by decide +kernel
theorem dX2_value_23 : decode cX2_value 23 = .ok (.lreturn, 1) := by decide +kernel
theorem dX2_value_24 : decode cX2_value 24 = .ok (.aload_n 0, 1) := by decide +kernel
theorem dX2_value_25 : decode cX2_value 25 = .ok (.aload_n 0, 1) := by decide +kernel
theorem dX2_value_26 : decode cX2_value 26 = .ok (.getfield 23, 3) := by decide +kernel
theorem dX2_value_29 : decode cX2_value 29 = .ok (.iload_n 2, 1) := by decide +kernel
theorem dX2_value_30 : decode cX2_value 30 = .ok (.iload_n 1, 1) := by decide +kernel
theorem dX2_value_31 : decode cX2_value 31 = .ok (.iload_n 3, 1) := by decide +kernel
theorem dX2_value_32 : decode cX2_value 32 = .ok (.invokevirtual 130, 3) := by decide +kernel
theorem dX2_value_35 : decode cX2_value 35 = .ok (.iload 4, 2) := by decide +kernel
theorem dX2_value_37 : decode cX2_value 37 = .ok (.invokevirtual 134, 3) := by decide +kernel
theorem dX2_value_40 : decode cX2_value 40 = .ok (.lreturn, 1) := by decide +kernel
theorem dX2_input_0 : decode cX2_input 0 = .ok (.aload_n 0, 1) := by decide +kernel
theorem dX2_input_1 : decode cX2_input 1 = .ok (.iload_n 1, 1) := by decide +kernel
theorem dX2_input_2 : decode cX2_input 2 = .ok (.invokevirtual 68, 3) := by decide +kernel
theorem dX2_input_5 : decode cX2_input 5 = .ok (.ifCond .ne 7, 3) := by decide +kernel
theorem dX2_input_8 : decode cX2_input 8 = .ok (.ldc2_w 128, 3) := by decide +kernel
theorem dX2_input_11 : decode cX2_input 11 = .ok (.lreturn, 1) := by decide +kernel
theorem dX2_input_12 : decode cX2_input 12 = .ok (.aload_n 0, 1) := by decide +kernel
theorem dX2_input_13 : decode cX2_input 13 = .ok (.aload_n 0, 1) := by decide +kernel
theorem dX2_input_14 : decode cX2_input 14 = .ok (.getfield 23, 3) := by decide +kernel
theorem dX2_input_17 : decode cX2_input 17 = .ok (.iconst 0, 1) := by decide +kernel
theorem dX2_input_18 : decode cX2_input 18 = .ok (.iload_n 1, 1) := by decide +kernel
theorem dX2_input_19 : decode cX2_input 19 = .ok (.iload_n 2, 1) := by decide +kernel
theorem dX2_input_20 : decode cX2_input 20 = .ok (.invokevirtual 130, 3) := by decide +kernel
theorem dX2_input_23 : decode cX2_input 23 = .ok (.iload_n 3, 1) := by decide +kernel
theorem dX2_input_24 : decode cX2_input 24 = .ok (.invokevirtual 134, 3) := by decide +kernel
theorem dX2_input_27 : decode cX2_input 27 = .ok (.lreturn, 1) := by decide +kernel
theorem dX2_received_0 : decode cX2_received 0 = .ok (.aload_n 0, 1) := by decide +kernel
theorem dX2_received_1 : decode cX2_received 1 = .ok (.iload_n 1, 1) := by decide +kernel
theorem dX2_received_2 : decode cX2_received 2 = .ok (.invokevirtual 125, 3) := by decide +kernel
theorem dX2_received_5 : decode cX2_received 5 = .ok (.ifCond .eq 21, 3) := by decide +kernel
theorem dX2_received_8 : decode cX2_received 8 = .ok (.aload_n 0, 1) := by decide +kernel
theorem dX2_received_9 : decode cX2_received 9 = .ok (.iload_n 2, 1) := by decide +kernel
theorem dX2_received_10 : decode cX2_received 10 = .ok (.invokevirtual 68, 3) := by decide +kernel
theorem dX2_received_13 : decode cX2_received 13 = .ok (.ifCond .eq 13, 3) := by decide +kernel
theorem dX2_received_16 : decode cX2_received 16 = .ok (.aload_n 0, 1) := by decide +kernel
theorem dX2_received_17 : decode cX2_received 17 = .ok (.iload_n 2, 1) := by decide +kernel
theorem dX2_received_18 : decode cX2_received 18 = .ok (.iload_n 1, 1) := by decide +kernel
theorem dX2_received_19 : decode cX2_received 19 = .ok (.invokevirtual 94, 3) := by decide +kernel
theorem dX2_received_22 : decode cX2_received 22 = .ok (.iconst (-1), 1) := by decide +kernel
theorem dX2_received_23 : decode cX2_received 23 = .ok (.if_icmp .ne 7, 3) := by decide +kernel
theorem dX2_received_26 : decode cX2_received 26 = .ok (.ldc2_w 128, 3) := by decide +kernel
theorem dX2_received_29 : decode cX2_received 29 = .ok (.lreturn, 1) := by decide +kernel
theorem dX2_received_30 : decode cX2_received 30 = .ok (.aload_n 0, 1) := by decide +kernel
theorem dX2_received_31 : decode cX2_received 31 = .ok (.aload_n 0, 1) := by decide +kernel
theorem dX2_received_32 : decode cX2_received 32 = .ok (.iload_n 2, 1) := by decide +kernel
theorem dX2_received_33 : decode cX2_received 33 = .ok (.iload_n 1, 1) := by decide +kernel
theorem dX2_received_34 : decode cX2_received 34 = .ok (.iload_n 3, 1) := by decide +kernel
theorem dX2_received_35 : decode cX2_received 35 = .ok (.invokevirtual 138, 3) := by decide +kernel
theorem dX2_received_38 : decode cX2_received 38 = .ok (.iload 4, 2) := by decide +kernel
theorem dX2_received_40 : decode cX2_received 40 = .ok (.invokevirtual 134, 3) := by decide +kernel
theorem dX2_received_43 : decode cX2_received 43 = .ok (.lreturn, 1) := by decide +kernel
theorem dX2_rest_0 : decode cX2_rest 0 = .ok (.aload_n 0, 1) := by decide +kernel
theorem dX2_rest_1 : decode cX2_rest 1 = .ok (.iload_n 1, 1) := by decide +kernel
theorem dX2_rest_2 : decode cX2_rest 2 = .ok (.invokevirtual 125, 3) := by decide +kernel
theorem dX2_rest_5 : decode cX2_rest 5 = .ok (.ifCond .eq 17, 3) := by decide +kernel
theorem dX2_rest_8 : decode cX2_rest 8 = .ok (.iload_n 2, 1) := by decide +kernel
theorem dX2_rest_9 : decode cX2_rest 9 = .ok (.ifCond .lt 13, 3) := by decide +kernel
theorem dX2_rest_12 : decode cX2_rest 12 = .ok (.iload_n 2, 1) := by decide +kernel
theorem dX2_rest_13 : decode cX2_rest 13 = .ok (.aload_n 0, 1) := by decide +kernel
theorem dX2_rest_14 : decode cX2_rest 14 = .ok (.iload_n 1, 1) := by decide +kernel
theorem dX2_rest_15 : decode cX2_rest 15 = .ok (.iload_n 3, 1) := by decide +kernel
theorem dX2_rest_16 : decode cX2_rest 16 = .ok (.invokevirtual 141, 3) := by decide +kernel
theorem dX2_rest_19 : decode cX2_rest 19 = .ok (.if_icmp .lt 7, 3) := by decide +kernel
theorem dX2_rest_22 : decode cX2_rest 22 = .ok (.ldc2_w 128, 3) := by decide +kernel
theorem dX2_rest_25 : decode cX2_rest 25 = .ok (.lreturn, 1) := by decide +kernel
theorem dX2_rest_26 : decode cX2_rest 26 = .ok (.aload_n 0, 1) := by decide +kernel
theorem dX2_rest_27 : decode cX2_rest 27 = .ok (.aload_n 0, 1) := by decide +kernel
theorem dX2_rest_28 : decode cX2_rest 28 = .ok (.iload_n 2, 1) := by decide +kernel
theorem dX2_rest_29 : decode cX2_rest 29 = .ok (.invokevirtual 145, 3) := by decide +kernel
theorem dX2_rest_32 : decode cX2_rest 32 = .ok (.iload 4, 2) := by decide +kernel
theorem dX2_rest_34 : decode cX2_rest 34 = .ok (.invokevirtual 134, 3) := by decide +kernel
theorem dX2_rest_37 : decode cX2_rest 37 = .ok (.lreturn, 1) := by decide +kernel
theorem dX2_mostFrequent_0 : decode cX2_mostFrequent 0 = .ok (.iload_n 1, 1) := by decide +kernel
theorem dX2_mostFrequent_1 : decode cX2_mostFrequent 1 = .ok (.iconst 0, 1) := by decide +kernel
theorem dX2_mostFrequent_2 : decode cX2_mostFrequent 2 = .ok (.iconst 1, 1) := by decide +kernel
theorem dX2_mostFrequent_3 : decode cX2_mostFrequent 3 = .ok (.invokestatic 49, 3) := by decide +kernel
theorem dX2_mostFrequent_6 : decode cX2_mostFrequent 6 = .ok (.ifCond .ne 7, 3) := by decide +kernel
theorem dX2_mostFrequent_9 : decode cX2_mostFrequent 9 = .ok (.sipush (-1002), 3) := by decide +kernel
theorem dX2_mostFrequent_12 : decode cX2_mostFrequent 12 = .ok (.ireturn, 1) := by decide +kernel
theorem dX2_mostFrequent_13 : decode cX2_mostFrequent 13 = .ok (.aload_n 0, 1) := by decide +kernel
