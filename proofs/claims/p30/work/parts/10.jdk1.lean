def rmJ6_bitCount_0f7a4 : Room := { frames := 0, cells := 0, slots := 0, locals := 0 }
def fJ6_bitCount_0f7a4 (a1 : Int32) : Option Int32 :=
  lt1 (a1 - (((a1.toUInt32 >>> ((1 : Int32).toUInt32 &&& Int32.toUInt32 31)).toInt32) &&& (1431655765 : Int32))) fun x3 =>
  lt1 ((x3 &&& (858993459 : Int32)) + (((x3.toUInt32 >>> ((2 : Int32).toUInt32 &&& Int32.toUInt32 31)).toInt32) &&& (858993459 : Int32))) fun x5 =>
  lt1 ((x5 + ((x5.toUInt32 >>> ((4 : Int32).toUInt32 &&& Int32.toUInt32 31)).toInt32)) &&& (252645135 : Int32)) fun x7 =>
  lt1 (x7 + ((x7.toUInt32 >>> ((8 : Int32).toUInt32 &&& Int32.toUInt32 31)).toInt32)) fun x9 =>
  lt1 (x9 + ((x9.toUInt32 >>> ((16 : Int32).toUInt32 &&& Int32.toUInt32 31)).toInt32)) fun x11 =>
  some (x11 &&& (63 : Int32))
theorem ctJ6_bitCount_0f7a4 {l : Launch} {a1 : Int32} {rf : Int32} (h : fJ6_bitCount_0f7a4 a1 = some rf) : Cs l yJ6_bitCount_0f7a4 cJ6_bitCount_0f7a4 1 (some .int) rmJ6_bitCount_0f7a4 [.int a1] (some (.int rf)) := by
  refine Cs_of (by decide +kernel) (Nat.le_of_ble_eq_true rfl) ?_
  intro p e s m args below meth c C hr
  replace C : Cb p s m args meth c RJ6 cJ6_bitCount_0f7a4 1 := C
  have h2 := h; clear h
  refine b_sub (lv' := [(0, .int a1)]) [0] rfl ?_
  refine b_iload_n C 0 dJ6_bitCount_0f7a4_0 rfl rfl ?_
  refine b_iload_n C 0 dJ6_bitCount_0f7a4_1 rfl rfl ?_
  refine b_iconst (v := (1 : Int32)) C dJ6_bitCount_0f7a4_2 (by decide) ?_
  refine b_iushr C dJ6_bitCount_0f7a4_3 ?_
  refine b_ldcw (v := (1431655765 : Int32)) C dJ6_bitCount_0f7a4_4 kc_J6_265 ?_
  refine b_iand C dJ6_bitCount_0f7a4_7 ?_
  refine b_isub C dJ6_bitCount_0f7a4_8 ?_
  obtain ⟨x3, ex3, h4⟩ := lt1_inv h2; clear h2
  refine b_nmI ex3 ?_
  refine b_istore_n (lv' := [(0, .int x3)]) C dJ6_bitCount_0f7a4_9 rfl (by decide) rfl ?_
  refine b_iload_n C 0 dJ6_bitCount_0f7a4_10 rfl rfl ?_
  refine b_ldcw (v := (858993459 : Int32)) C dJ6_bitCount_0f7a4_11 kc_J6_266 ?_
  refine b_iand C dJ6_bitCount_0f7a4_14 ?_
  refine b_iload_n C 0 dJ6_bitCount_0f7a4_15 rfl rfl ?_
  refine b_iconst (v := (2 : Int32)) C dJ6_bitCount_0f7a4_16 (by decide) ?_
  refine b_iushr C dJ6_bitCount_0f7a4_17 ?_
  refine b_ldcw (v := (858993459 : Int32)) C dJ6_bitCount_0f7a4_18 kc_J6_266 ?_
  refine b_iand C dJ6_bitCount_0f7a4_21 ?_
  refine b_iadd C dJ6_bitCount_0f7a4_22 ?_
  obtain ⟨x5, ex5, h6⟩ := lt1_inv h4; clear h4
  refine b_nmI ex5 ?_
  refine b_istore_n (lv' := [(0, .int x5)]) C dJ6_bitCount_0f7a4_23 rfl (by decide) rfl ?_
  refine b_iload_n C 0 dJ6_bitCount_0f7a4_24 rfl rfl ?_
  refine b_iload_n C 0 dJ6_bitCount_0f7a4_25 rfl rfl ?_
  refine b_iconst (v := (4 : Int32)) C dJ6_bitCount_0f7a4_26 (by decide) ?_
  refine b_iushr C dJ6_bitCount_0f7a4_27 ?_
  refine b_iadd C dJ6_bitCount_0f7a4_28 ?_
  refine b_ldcw (v := (252645135 : Int32)) C dJ6_bitCount_0f7a4_29 kc_J6_267 ?_
  refine b_iand C dJ6_bitCount_0f7a4_32 ?_
  obtain ⟨x7, ex7, h8⟩ := lt1_inv h6; clear h6
  refine b_nmI ex7 ?_
  refine b_istore_n (lv' := [(0, .int x7)]) C dJ6_bitCount_0f7a4_33 rfl (by decide) rfl ?_
  refine b_iload_n C 0 dJ6_bitCount_0f7a4_34 rfl rfl ?_
  refine b_iload_n C 0 dJ6_bitCount_0f7a4_35 rfl rfl ?_
  refine b_bipush (v := (8 : Int32)) C dJ6_bitCount_0f7a4_36 (by decide) ?_
  refine b_iushr C dJ6_bitCount_0f7a4_38 ?_
  refine b_iadd C dJ6_bitCount_0f7a4_39 ?_
  obtain ⟨x9, ex9, h10⟩ := lt1_inv h8; clear h8
  refine b_nmI ex9 ?_
  refine b_istore_n (lv' := [(0, .int x9)]) C dJ6_bitCount_0f7a4_40 rfl (by decide) rfl ?_
  refine b_iload_n C 0 dJ6_bitCount_0f7a4_41 rfl rfl ?_
  refine b_iload_n C 0 dJ6_bitCount_0f7a4_42 rfl rfl ?_
  refine b_bipush (v := (16 : Int32)) C dJ6_bitCount_0f7a4_43 (by decide) ?_
  refine b_iushr C dJ6_bitCount_0f7a4_45 ?_
  refine b_iadd C dJ6_bitCount_0f7a4_46 ?_
  obtain ⟨x11, ex11, h12⟩ := lt1_inv h10; clear h10
  refine b_nmI ex11 ?_
  refine b_istore_n (lv' := [(0, .int x11)]) C dJ6_bitCount_0f7a4_47 rfl (by decide) rfl ?_
  refine b_iload_n C 0 dJ6_bitCount_0f7a4_48 rfl rfl ?_
  refine b_bipush (v := (63 : Int32)) C dJ6_bitCount_0f7a4_49 (by decide) ?_
  refine b_iand C dJ6_bitCount_0f7a4_51 ?_
  obtain rfl := so1 h12
  exact s_iret C dJ6_bitCount_0f7a4_52 hr
def rmJ9_abs_067f4 : Room := { frames := 0, cells := 0, slots := 0, locals := 0 }
def fJ9_abs_067f4 (a1 : Int64) : Option Int64 :=
  if (0 : Int64) ≤ a1 then (
  some a1)
  else (
  some (-a1))
theorem ctJ9_abs_067f4 {l : Launch} {a1 : Int64} {rf : Int64} (h : fJ9_abs_067f4 a1 = some rf) : Cs l yJ9_abs_067f4 cJ9_abs_067f4 2 (some .long) rmJ9_abs_067f4 [.long a1] (some (.long rf)) := by
  refine Cs_of (by decide +kernel) (Nat.le_of_ble_eq_true rfl) ?_
  intro p e s m args below meth c C hr
  replace C : Cb p s m args meth c RJ9 cJ9_abs_067f4 2 := C
  have h2 := h; clear h
  refine b_sub (lv' := [(0, .long a1)]) [0] rfl ?_
  refine b_lload_n C 0 dJ9_abs_067f4_0 rfl rfl ?_
  refine b_lconst (v := (0 : Int64)) C dJ9_abs_067f4_1 (by decide) ?_
  refine b_lc_ge (tgt := 11) C dJ9_abs_067f4_2 dJ9_abs_067f4_3 (by decide) (fun c3 => ?_) (fun c3 => ?_)
  · have h4 := ipos h2 c3; clear h2
    refine b_lload_n C 0 dJ9_abs_067f4_11 rfl rfl ?_
    obtain rfl := so1 h4
    exact s_lret C dJ9_abs_067f4_12 hr
  have h5 := ineg h2 c3; clear h2
  refine b_lload_n C 0 dJ9_abs_067f4_6 rfl rfl ?_
  refine b_lneg C dJ9_abs_067f4_7 ?_
  refine b_goto (tgt := 12) C dJ9_abs_067f4_8 (by decide) ?_
  obtain rfl := so1 h5
  exact s_lret C dJ9_abs_067f4_12 hr
def rmJ9_floorDiv_f86c9 : Room := { frames := 0, cells := 0, slots := 0, locals := 0 }
def fJ9_floorDiv_f86c9 (a1 : Int64) (a2 : Int64) : Option Int64 :=
  if a2 = (0 : Int64) then none else
  lt1 (a1 / a2) fun x6 =>
  if (0 : Int64) ≤ (a1 ^^^ a2) then (
  some x6)
  else (
  if (x6 * a2) = a1 then (
  some x6)
  else (
  some (x6 - (1 : Int64))))
theorem ctJ9_floorDiv_f86c9 {l : Launch} {a1 : Int64} {a2 : Int64} {rf : Int64} (h : fJ9_floorDiv_f86c9 a1 a2 = some rf) : Cs l yJ9_floorDiv_f86c9 cJ9_floorDiv_f86c9 6 (some .long) rmJ9_floorDiv_f86c9 [.long a1, .long a2] (some (.long rf)) := by
  refine Cs_of (by decide +kernel) (Nat.le_of_ble_eq_true rfl) ?_
  intro p e s m args below meth c C hr
  replace C : Cb p s m args meth c RJ9 cJ9_floorDiv_f86c9 6 := C
  have h3 := h; clear h
  refine b_sub (lv' := [(0, .long a1), (2, .long a2)]) [0, 1] rfl ?_
  refine b_lload_n C 0 dJ9_floorDiv_f86c9_0 rfl rfl ?_
  refine b_lload_n C 1 dJ9_floorDiv_f86c9_1 rfl rfl ?_
  obtain ⟨g5, h4⟩ := gdn h3; clear h3
  refine b_ldiv C dJ9_floorDiv_f86c9_2 g5 ?_
  obtain ⟨x6, ex6, h7⟩ := lt1_inv h4; clear h4
  refine b_nmJ ex6 ?_
  refine b_lstore (lv' := [(4, .long x6), (0, .long a1), (2, .long a2)]) C dJ9_floorDiv_f86c9_3 (by decide) rfl ?_
  refine b_lload_n C 1 dJ9_floorDiv_f86c9_5 rfl rfl ?_
  refine b_lload_n C 2 dJ9_floorDiv_f86c9_6 rfl rfl ?_
  refine b_lxor C dJ9_floorDiv_f86c9_7 ?_
  refine b_lconst (v := (0 : Int64)) C dJ9_floorDiv_f86c9_8 (by decide) ?_
  refine b_lc_ge (tgt := 27) C dJ9_floorDiv_f86c9_9 dJ9_floorDiv_f86c9_10 (by decide) (fun c8 => ?_) (fun c8 => ?_)
  · have h9 := ipos h7 c8; clear h7
    refine b_lload C 0 dJ9_floorDiv_f86c9_27 rfl ?_
    obtain rfl := so1 h9
    exact s_lret C dJ9_floorDiv_f86c9_29 hr
  have h10 := ineg h7 c8; clear h7
  refine b_lload C 0 dJ9_floorDiv_f86c9_13 rfl ?_
  refine b_lload_n C 2 dJ9_floorDiv_f86c9_15 rfl rfl ?_
  refine b_lmul C dJ9_floorDiv_f86c9_16 ?_
  refine b_lload_n C 1 dJ9_floorDiv_f86c9_17 rfl rfl ?_
  refine b_lc_eq (tgt := 27) C dJ9_floorDiv_f86c9_18 dJ9_floorDiv_f86c9_19 (by decide) (fun c11 => ?_) (fun c11 => ?_)
  · have h12 := ipos h10 c11; clear h10
    refine b_lload C 0 dJ9_floorDiv_f86c9_27 rfl ?_
    obtain rfl := so1 h12
    exact s_lret C dJ9_floorDiv_f86c9_29 hr
  have h13 := ineg h10 c11; clear h10
  refine b_lload C 0 dJ9_floorDiv_f86c9_22 rfl ?_
  refine b_lconst (v := (1 : Int64)) C dJ9_floorDiv_f86c9_24 (by decide) ?_
  refine b_lsub C dJ9_floorDiv_f86c9_25 ?_
  obtain rfl := so1 h13
  exact s_lret C dJ9_floorDiv_f86c9_26 hr
def rmJ9_max_7cf53 : Room := { frames := 0, cells := 0, slots := 0, locals := 0 }
def fJ9_max_7cf53 (a1 : Int32) (a2 : Int32) : Option Int32 :=
  if a1 < a2 then (
  some a2)
  else (
  some a1)
theorem ctJ9_max_7cf53 {l : Launch} {a1 : Int32} {a2 : Int32} {rf : Int32} (h : fJ9_max_7cf53 a1 a2 = some rf) : Cs l yJ9_max_7cf53 cJ9_max_7cf53 2 (some .int) rmJ9_max_7cf53 [.int a1, .int a2] (some (.int rf)) := by
  refine Cs_of (by decide +kernel) (Nat.le_of_ble_eq_true rfl) ?_
  intro p e s m args below meth c C hr
  replace C : Cb p s m args meth c RJ9 cJ9_max_7cf53 2 := C
  have h3 := h; clear h
  refine b_sub (lv' := [(0, .int a1), (1, .int a2)]) [0, 1] rfl ?_
  refine b_iload_n C 0 dJ9_max_7cf53_0 rfl rfl ?_
  refine b_iload_n C 1 dJ9_max_7cf53_1 rfl rfl ?_
  refine b_icmp_lt (tgt := 9) C dJ9_max_7cf53_2 (by decide) (fun c4 => ?_) (fun c4 => ?_)
  · have h5 := ipos h3 c4; clear h3
    refine b_iload_n C 1 dJ9_max_7cf53_9 rfl rfl ?_
    obtain rfl := so1 h5
    exact s_iret C dJ9_max_7cf53_10 hr
  have h6 := ineg h3 c4; clear h3
  refine b_iload_n C 0 dJ9_max_7cf53_5 rfl rfl ?_
  refine b_goto (tgt := 10) C dJ9_max_7cf53_6 (by decide) ?_
  obtain rfl := so1 h6
  exact s_iret C dJ9_max_7cf53_10 hr
def rmJ9_max_f86c9 : Room := { frames := 0, cells := 0, slots := 0, locals := 0 }
def fJ9_max_f86c9 (a1 : Int64) (a2 : Int64) : Option Int64 :=
  if a1 < a2 then (
  some a2)
  else (
  some a1)
theorem ctJ9_max_f86c9 {l : Launch} {a1 : Int64} {a2 : Int64} {rf : Int64} (h : fJ9_max_f86c9 a1 a2 = some rf) : Cs l yJ9_max_f86c9 cJ9_max_f86c9 4 (some .long) rmJ9_max_f86c9 [.long a1, .long a2] (some (.long rf)) := by
  refine Cs_of (by decide +kernel) (Nat.le_of_ble_eq_true rfl) ?_
  intro p e s m args below meth c C hr
  replace C : Cb p s m args meth c RJ9 cJ9_max_f86c9 4 := C
  have h3 := h; clear h
  refine b_sub (lv' := [(0, .long a1), (2, .long a2)]) [0, 1] rfl ?_
  refine b_lload_n C 0 dJ9_max_f86c9_0 rfl rfl ?_
  refine b_lload_n C 1 dJ9_max_f86c9_1 rfl rfl ?_
  refine b_lc_lt (tgt := 10) C dJ9_max_f86c9_2 dJ9_max_f86c9_3 (by decide) (fun c4 => ?_) (fun c4 => ?_)
  · have h5 := ipos h3 c4; clear h3
    refine b_lload_n C 1 dJ9_max_f86c9_10 rfl rfl ?_
    obtain rfl := so1 h5
    exact s_lret C dJ9_max_f86c9_11 hr
  have h6 := ineg h3 c4; clear h3
  refine b_lload_n C 0 dJ9_max_f86c9_6 rfl rfl ?_
  refine b_goto (tgt := 11) C dJ9_max_f86c9_7 (by decide) ?_
  obtain rfl := so1 h6
  exact s_lret C dJ9_max_f86c9_11 hr
def rmJ9_min_f86c9 : Room := { frames := 0, cells := 0, slots := 0, locals := 0 }
def fJ9_min_f86c9 (a1 : Int64) (a2 : Int64) : Option Int64 :=
  if a2 < a1 then (
  some a2)
  else (
  some a1)
theorem ctJ9_min_f86c9 {l : Launch} {a1 : Int64} {a2 : Int64} {rf : Int64} (h : fJ9_min_f86c9 a1 a2 = some rf) : Cs l yJ9_min_f86c9 cJ9_min_f86c9 4 (some .long) rmJ9_min_f86c9 [.long a1, .long a2] (some (.long rf)) := by
  refine Cs_of (by decide +kernel) (Nat.le_of_ble_eq_true rfl) ?_
  intro p e s m args below meth c C hr
  replace C : Cb p s m args meth c RJ9 cJ9_min_f86c9 4 := C
  have h3 := h; clear h
  refine b_sub (lv' := [(0, .long a1), (2, .long a2)]) [0, 1] rfl ?_
  refine b_lload_n C 0 dJ9_min_f86c9_0 rfl rfl ?_
  refine b_lload_n C 1 dJ9_min_f86c9_1 rfl rfl ?_
  refine b_lc_gt (tgt := 10) C dJ9_min_f86c9_2 dJ9_min_f86c9_3 (by decide) (fun c4 => ?_) (fun c4 => ?_)
  · have h5 := ipos h3 c4; clear h3
    refine b_lload_n C 1 dJ9_min_f86c9_10 rfl rfl ?_
    obtain rfl := so1 h5
    exact s_lret C dJ9_min_f86c9_11 hr
  have h6 := ineg h3 c4; clear h3
  refine b_lload_n C 0 dJ9_min_f86c9_6 rfl rfl ?_
  refine b_goto (tgt := 11) C dJ9_min_f86c9_7 (by decide) ?_
  obtain rfl := so1 h6
  exact s_lret C dJ9_min_f86c9_11 hr
