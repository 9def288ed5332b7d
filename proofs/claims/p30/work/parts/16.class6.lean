def rmX2_reset : Room := { frames := 3, cells := 0, slots := 0, locals := 73 }
def fX2_reset (N : Nat) (σ : St) (a1 : Int32) (a2 : Int32) (a3 : Int32) : Option (Int32 × St) :=
  bd0 (fX2_isWithin a1 (2 : Int32) (10 : Int32)) fun r6 =>
  if r6 = (0 : Int32) then (
  some ((-1002 : Int32), σ))
  else (
  bd0 (fX2_isWithin a2 (0 : Int32) (3 : Int32)) fun r11 =>
  if r11 = (0 : Int32) then (
  some ((-1002 : Int32), σ))
  else (
  bd0 (fX2_isWithin a3 (1 : Int32) (720720 : Int32)) fun r16 =>
  if r16 = (0 : Int32) then (
  some ((-1002 : Int32), σ))
  else (
  lt1 (gI σ 0) fun x20 =>
  bd0 (fX2_startAnew N σ a1 a2 a3) fun σ23 =>
  some (x20, σ23))))
theorem ctX2_reset {l : Launch} {ad : Nat → Nat} {ca : Nat → ClassId} {N : Nat} {σ : St} {a1 : Int32} {a2 : Int32} {a3 : Int32} {rf : Int32} {σf : St} (h : fX2_reset N σ a1 a2 a3 = some (rf, σf)) : Cw l yX2_reset cX2_reset 5 (some .int) rmX2_reset [.ref (ad 0), .int a1, .int a2, .int a3] (wX ad ca) (tyX ca) σ (some (.int rf)) σf := by
  refine Cw_of (by decide) (sameX ad ca) (Nat.le_of_ble_eq_true rfl) ?_
  intro p e s m args below meth c D A C X hr
  replace C : Cb p s m args meth c RX2 cX2_reset 5 := C
  have h4 := h; clear h
  refine b_sub (lv' := [(0, .ref (ad 0)), (1, .int a1), (2, .int a2), (3, .int a3)]) [0, 1, 2, 3] rfl ?_
  refine b_iload_n C 1 dX2_reset_0 rfl rfl ?_
  refine b_iconst (v := (2 : Int32)) C dX2_reset_1 (by decide) ?_
  refine b_bipush (v := (10 : Int32)) C dX2_reset_2 (by decide) ?_
  obtain ⟨r6, ec5, h5⟩ := bd0_inv h4; clear h4
  refine b_callSi (rest := []) C dX2_reset_4 (ctX2_isWithin ec5) mf_X2_isWithin ms_X2_isWithin kl_X2_49 rfl ⟨rfl, rfl⟩ ⟨Nat.le_of_ble_eq_true rfl, Nat.le_of_ble_eq_true rfl⟩ ⟨Nat.zero_le _, Nat.zero_le _⟩ rfl (Nat.le_of_ble_eq_true rfl) ?_
  refine b_if_eq (tgt := 29) C dX2_reset_7 (by decide) (fun c7 => ?_) (fun c7 => ?_)
  · have h8 := ipos h5 c7; clear h5
    refine b_sipush (v := (-1002 : Int32)) C dX2_reset_29 (by decide) ?_
    obtain ⟨rfl, rfl⟩ := so2 h8
    exact b_iret C dX2_reset_32 hr
  have h9 := ineg h5 c7; clear h5
  refine b_iload_n C 2 dX2_reset_10 rfl rfl ?_
  refine b_iconst (v := (0 : Int32)) C dX2_reset_11 (by decide) ?_
  refine b_iconst (v := (3 : Int32)) C dX2_reset_12 (by decide) ?_
  obtain ⟨r11, ec10, h10⟩ := bd0_inv h9; clear h9
  refine b_callSi (rest := []) C dX2_reset_13 (ctX2_isWithin ec10) mf_X2_isWithin ms_X2_isWithin kl_X2_49 rfl ⟨rfl, rfl⟩ ⟨Nat.le_of_ble_eq_true rfl, Nat.le_of_ble_eq_true rfl⟩ ⟨Nat.zero_le _, Nat.zero_le _⟩ rfl (Nat.le_of_ble_eq_true rfl) ?_
  refine b_if_eq (tgt := 29) C dX2_reset_16 (by decide) (fun c12 => ?_) (fun c12 => ?_)
  · have h13 := ipos h10 c12; clear h10
    refine b_sipush (v := (-1002 : Int32)) C dX2_reset_29 (by decide) ?_
    obtain ⟨rfl, rfl⟩ := so2 h13
    exact b_iret C dX2_reset_32 hr
  have h14 := ineg h10 c12; clear h10
  refine b_iload_n C 3 dX2_reset_19 rfl rfl ?_
  refine b_iconst (v := (1 : Int32)) C dX2_reset_20 (by decide) ?_
  refine b_ldc (v := (720720 : Int32)) C dX2_reset_21 kc_X2_44 ?_
  obtain ⟨r16, ec15, h15⟩ := bd0_inv h14; clear h14
  refine b_callSi (rest := []) C dX2_reset_23 (ctX2_isWithin ec15) mf_X2_isWithin ms_X2_isWithin kl_X2_49 rfl ⟨rfl, rfl⟩ ⟨Nat.le_of_ble_eq_true rfl, Nat.le_of_ble_eq_true rfl⟩ ⟨Nat.zero_le _, Nat.zero_le _⟩ rfl (Nat.le_of_ble_eq_true rfl) ?_
  refine b_if_ne (tgt := 33) C dX2_reset_26 (by decide) (fun c17 => ?_) (fun c17 => ?_)
  · have h18 := ineg h15 c17; clear h15
    refine b_aload_n C 0 dX2_reset_33 rfl rfl ?_
    refine gX2_53 C X dX2_reset_34 ?_
    obtain ⟨x20, ex20, h21⟩ := lt1_inv h18; clear h18
    refine b_nmI ex20 ?_
    refine b_istore (lv' := [(4, .int x20), (0, .ref (ad 0)), (1, .int a1), (2, .int a2), (3, .int a3)]) C dX2_reset_37 (by decide) rfl ?_
    refine b_aload_n C 1 dX2_reset_39 rfl rfl ?_
    refine b_iload_n C 2 dX2_reset_40 rfl rfl ?_
    refine b_iload_n C 3 dX2_reset_41 rfl rfl ?_
    refine b_iload_n C 4 dX2_reset_42 rfl rfl ?_
    obtain ⟨σ23, ec22, h22⟩ := bd0_inv h21; clear h21
    refine b_callWv (rest := []) C (sameX ad ca) X dX2_reset_43 (ctX2_startAnew ec22) mf_X2_startAnew mi_X2_startAnew kl_X2_45 0 rfl rfl rfl rfl ⟨rfl, rfl⟩ ⟨Nat.le_of_ble_eq_true rfl, Nat.le_of_ble_eq_true rfl⟩ ⟨Nat.zero_le _, Nat.zero_le _⟩ rfl (Nat.le_of_ble_eq_true rfl) ?_
    refine b_iload C 0 dX2_reset_46 rfl ?_
    obtain ⟨rfl, rfl⟩ := so2 h22
    exact b_iret C dX2_reset_48 hr
  have h19 := ipos h15 c17; clear h15
  refine b_sipush (v := (-1002 : Int32)) C dX2_reset_29 (by decide) ?_
  obtain ⟨rfl, rfl⟩ := so2 h19
  exact b_iret C dX2_reset_32 hr
def rmX2_setCorrect : Room := { frames := 1, cells := 0, slots := 0, locals := 21 }
def fX2_setCorrect (σ : St) (a1 : Int32) : Option (Int32 × St) :=
  bd2 (fX2_isNode σ a1) fun r5 σ4 =>
  if r5 = (0 : Int32) then (
  some ((-1001 : Int32), σ4))
  else (
  if (gI σ4 3) = (0 : Int32) then (
  if (a1 < 0 ∨ 10 ≤ (a1).toNatClampNeg) then none else
  lt1 (gF σ4 2 (a1).toNatClampNeg) fun x14 =>
  if (a1 < 0 ∨ 10 ≤ (a1).toNatClampNeg) then none else
  lt1 (sF σ4 2 (upd (gF σ4 2) (a1).toNatClampNeg (0 : Int32))) fun σ18 =>
  some (x14, σ18))
  else (
  some ((-1003 : Int32), σ4)))
theorem ctX2_setCorrect {l : Launch} {ad : Nat → Nat} {ca : Nat → ClassId} {σ : St} {a1 : Int32} {rf : Int32} {σf : St} (h : fX2_setCorrect σ a1 = some (rf, σf)) : Cw l yX2_setCorrect cX2_setCorrect 3 (some .int) rmX2_setCorrect [.ref (ad 0), .int a1] (wX ad ca) (tyX ca) σ (some (.int rf)) σf := by
  refine Cw_of (by decide) (sameX ad ca) (Nat.le_of_ble_eq_true rfl) ?_
  intro p e s m args below meth c D A C X hr
  replace C : Cb p s m args meth c RX2 cX2_setCorrect 3 := C
  have h2 := h; clear h
  refine b_sub (lv' := [(0, .ref (ad 0)), (1, .int a1)]) [0, 1] rfl ?_
  refine b_aload_n C 0 dX2_setCorrect_0 rfl rfl ?_
  refine b_iload_n C 1 dX2_setCorrect_1 rfl rfl ?_
  obtain ⟨r5, σ4, ec3, h3⟩ := bd2_inv h2; clear h2
  refine b_callWi (rest := []) C (sameX ad ca) X dX2_setCorrect_2 (ctX2_isNode ec3) mf_X2_isNode mi_X2_isNode kl_X2_68 0 rfl rfl rfl rfl ⟨rfl, rfl⟩ ⟨Nat.le_of_ble_eq_true rfl, Nat.le_of_ble_eq_true rfl⟩ ⟨Nat.zero_le _, Nat.zero_le _⟩ rfl (Nat.le_of_ble_eq_true rfl) ?_
  refine b_if_ne (tgt := 12) C dX2_setCorrect_5 (by decide) (fun c6 => ?_) (fun c6 => ?_)
  · have h7 := ineg h3 c6; clear h3
    refine b_aload_n C 0 dX2_setCorrect_12 rfl rfl ?_
    refine gX2_72 C X dX2_setCorrect_13 ?_
    refine b_if_eq (tgt := 23) C dX2_setCorrect_16 (by decide) (fun c9 => ?_) (fun c9 => ?_)
    · have h10 := ipos h7 c9; clear h7
      refine b_aload_n C 0 dX2_setCorrect_23 rfl rfl ?_
      refine gX2_34 C X dX2_setCorrect_24 ?_
      refine b_iload_n C 1 dX2_setCorrect_27 rfl rfl ?_
      obtain ⟨g13, h12⟩ := gdn h10; clear h10
      refine lX_10 C X g13 dX2_setCorrect_28 ?_
      obtain ⟨x14, ex14, h15⟩ := lt1_inv h12; clear h12
      refine b_nmI ex14 ?_
      refine b_istore_n (lv' := [(2, .int x14), (0, .ref (ad 0)), (1, .int a1)]) C dX2_setCorrect_29 rfl (by decide) rfl ?_
      refine b_aload_n C 1 dX2_setCorrect_30 rfl rfl ?_
      refine gX2_34 C X dX2_setCorrect_31 ?_
      refine b_iload_n C 2 dX2_setCorrect_34 rfl rfl ?_
      refine b_iconst (v := (0 : Int32)) C dX2_setCorrect_35 (by decide) ?_
      obtain ⟨g17, h16⟩ := gdn h15; clear h15
      refine aX_10 C X g17 dX2_setCorrect_36 ?_
      obtain ⟨σ18, eσ18, h19⟩ := lt1_inv h16; clear h16
      refine b_nmS eσ18 ?_
      refine b_iload_n C 0 dX2_setCorrect_37 rfl rfl ?_
      obtain ⟨rfl, rfl⟩ := so2 h19
      exact b_iret C dX2_setCorrect_38 hr
    have h11 := ineg h7 c9; clear h7
    refine b_sipush (v := (-1003 : Int32)) C dX2_setCorrect_19 (by decide) ?_
    obtain ⟨rfl, rfl⟩ := so2 h11
    exact b_iret C dX2_setCorrect_22 hr
  have h8 := ipos h3 c6; clear h3
  refine b_sipush (v := (-1001 : Int32)) C dX2_setCorrect_8 (by decide) ?_
  obtain ⟨rfl, rfl⟩ := so2 h8
  exact b_iret C dX2_setCorrect_11 hr
def rmX2_setFaulty : Room := { frames := 1, cells := 0, slots := 0, locals := 25 }
def fX2_setFaulty (σ : St) (a1 : Int32) (a2 : Int32) (a3 : Int32) (a4 : Int32) : Option (Int32 × St) :=
  bd2 (fX2_isNode σ a1) fun r8 σ7 =>
  if r8 = (0 : Int32) then (
  some ((-1001 : Int32), σ7))
  else (
  bd0 (fX2_isWithin a2 (1 : Int32) (5 : Int32)) fun r13 =>
  if r13 = (0 : Int32) then (
  some ((-1002 : Int32), σ7))
  else (
  bd0 (fX2_isWithin a3 (-1000 : Int32) (1000 : Int32)) fun r18 =>
  if r18 = (0 : Int32) then (
  some ((-1002 : Int32), σ7))
  else (
  bd0 (fX2_isWithin a4 (1 : Int32) (1000 : Int32)) fun r23 =>
  if r23 = (0 : Int32) then (
  some ((-1002 : Int32), σ7))
  else (
  bd0 (fX2_isOnGrid (a3.toInt64) (a4.toInt64) ((gI σ7 2).toInt64)) fun r28 =>
  if r28 = (0 : Int32) then (
  some ((-1002 : Int32), σ7))
  else (
  if (gI σ7 3) = (0 : Int32) then (
  if (a1 < 0 ∨ 10 ≤ (a1).toNatClampNeg) then none else
  lt1 (gF σ7 2 (a1).toNatClampNeg) fun x37 =>
  if (a1 < 0 ∨ 10 ≤ (a1).toNatClampNeg) then none else
  lt1 (sF σ7 2 (upd (gF σ7 2) (a1).toNatClampNeg a2)) fun σ41 =>
  bd0 (fX2_inUnits (a3.toInt64) (a4.toInt64) ((gI σ41 2).toInt64)) fun r44 =>
  if (a1 < 0 ∨ 10 ≤ (a1).toNatClampNeg) then none else
  lt1 (sG σ41 4 (vp_updL (gG σ41 4) (a1).toNatClampNeg r44)) fun σ47 =>
  some (x37, σ47))
  else (
  some ((-1003 : Int32), σ7)))))))
theorem ctX2_setFaulty {l : Launch} {ad : Nat → Nat} {ca : Nat → ClassId} {σ : St} {a1 : Int32} {a2 : Int32} {a3 : Int32} {a4 : Int32} {rf : Int32} {σf : St} (h : fX2_setFaulty σ a1 a2 a3 a4 = some (rf, σf)) : Cw l yX2_setFaulty cX2_setFaulty 6 (some .int) rmX2_setFaulty [.ref (ad 0), .int a1, .int a2, .int a3, .int a4] (wX ad ca) (tyX ca) σ (some (.int rf)) σf := by
  refine Cw_of (by decide) (sameX ad ca) (Nat.le_of_ble_eq_true rfl) ?_
  intro p e s m args below meth c D A C X hr
  replace C : Cb p s m args meth c RX2 cX2_setFaulty 6 := C
  have h5 := h; clear h
  refine b_sub (lv' := [(0, .ref (ad 0)), (1, .int a1), (2, .int a2), (3, .int a3), (4, .int a4)]) [0, 1, 2, 3, 4] rfl ?_
  refine b_aload_n C 0 dX2_setFaulty_0 rfl rfl ?_
  refine b_iload_n C 1 dX2_setFaulty_1 rfl rfl ?_
  obtain ⟨r8, σ7, ec6, h6⟩ := bd2_inv h5; clear h5
  refine b_callWi (rest := []) C (sameX ad ca) X dX2_setFaulty_2 (ctX2_isNode ec6) mf_X2_isNode mi_X2_isNode kl_X2_68 0 rfl rfl rfl rfl ⟨rfl, rfl⟩ ⟨Nat.le_of_ble_eq_true rfl, Nat.le_of_ble_eq_true rfl⟩ ⟨Nat.zero_le _, Nat.zero_le _⟩ rfl (Nat.le_of_ble_eq_true rfl) ?_
  refine b_if_ne (tgt := 12) C dX2_setFaulty_5 (by decide) (fun c9 => ?_) (fun c9 => ?_)
  · have h10 := ineg h6 c9; clear h6
    refine b_iload_n C 2 dX2_setFaulty_12 rfl rfl ?_
    refine b_iconst (v := (1 : Int32)) C dX2_setFaulty_13 (by decide) ?_
    refine b_iconst (v := (5 : Int32)) C dX2_setFaulty_14 (by decide) ?_
    obtain ⟨r13, ec12, h12⟩ := bd0_inv h10; clear h10
    refine b_callSi (rest := []) C dX2_setFaulty_15 (ctX2_isWithin ec12) mf_X2_isWithin ms_X2_isWithin kl_X2_49 rfl ⟨rfl, rfl⟩ ⟨Nat.le_of_ble_eq_true rfl, Nat.le_of_ble_eq_true rfl⟩ ⟨Nat.zero_le _, Nat.zero_le _⟩ rfl (Nat.le_of_ble_eq_true rfl) ?_
    refine b_if_eq (tgt := 62) C dX2_setFaulty_18 (by decide) (fun c14 => ?_) (fun c14 => ?_)
    · have h15 := ipos h12 c14; clear h12
      refine b_sipush (v := (-1002 : Int32)) C dX2_setFaulty_62 (by decide) ?_
      obtain ⟨rfl, rfl⟩ := so2 h15
      exact b_iret C dX2_setFaulty_65 hr
    have h16 := ineg h12 c14; clear h12
    refine b_iload_n C 3 dX2_setFaulty_21 rfl rfl ?_
    refine b_sipush (v := (-1000 : Int32)) C dX2_setFaulty_22 (by decide) ?_
    refine b_sipush (v := (1000 : Int32)) C dX2_setFaulty_25 (by decide) ?_
    obtain ⟨r18, ec17, h17⟩ := bd0_inv h16; clear h16
    refine b_callSi (rest := []) C dX2_setFaulty_28 (ctX2_isWithin ec17) mf_X2_isWithin ms_X2_isWithin kl_X2_49 rfl ⟨rfl, rfl⟩ ⟨Nat.le_of_ble_eq_true rfl, Nat.le_of_ble_eq_true rfl⟩ ⟨Nat.zero_le _, Nat.zero_le _⟩ rfl (Nat.le_of_ble_eq_true rfl) ?_
    refine b_if_eq (tgt := 62) C dX2_setFaulty_31 (by decide) (fun c19 => ?_) (fun c19 => ?_)
    · have h20 := ipos h17 c19; clear h17
      refine b_sipush (v := (-1002 : Int32)) C dX2_setFaulty_62 (by decide) ?_
      obtain ⟨rfl, rfl⟩ := so2 h20
      exact b_iret C dX2_setFaulty_65 hr
    have h21 := ineg h17 c19; clear h17
    refine b_iload C 4 dX2_setFaulty_34 rfl ?_
    refine b_iconst (v := (1 : Int32)) C dX2_setFaulty_36 (by decide) ?_
    refine b_sipush (v := (1000 : Int32)) C dX2_setFaulty_37 (by decide) ?_
    obtain ⟨r23, ec22, h22⟩ := bd0_inv h21; clear h21
    refine b_callSi (rest := []) C dX2_setFaulty_40 (ctX2_isWithin ec22) mf_X2_isWithin ms_X2_isWithin kl_X2_49 rfl ⟨rfl, rfl⟩ ⟨Nat.le_of_ble_eq_true rfl, Nat.le_of_ble_eq_true rfl⟩ ⟨Nat.zero_le _, Nat.zero_le _⟩ rfl (Nat.le_of_ble_eq_true rfl) ?_
    refine b_if_eq (tgt := 62) C dX2_setFaulty_43 (by decide) (fun c24 => ?_) (fun c24 => ?_)
    · have h25 := ipos h22 c24; clear h22
      refine b_sipush (v := (-1002 : Int32)) C dX2_setFaulty_62 (by decide) ?_
      obtain ⟨rfl, rfl⟩ := so2 h25
      exact b_iret C dX2_setFaulty_65 hr
    have h26 := ineg h22 c24; clear h22
    refine b_iload_n C 3 dX2_setFaulty_46 rfl rfl ?_
    refine b_i2l C dX2_setFaulty_47 ?_
    refine b_iload C 4 dX2_setFaulty_48 rfl ?_
    refine b_i2l C dX2_setFaulty_50 ?_
    refine b_aload_n C 0 dX2_setFaulty_51 rfl rfl ?_
    refine gX2_83 C X dX2_setFaulty_52 ?_
    refine b_i2l C dX2_setFaulty_55 ?_
    obtain ⟨r28, ec27, h27⟩ := bd0_inv h26; clear h26
    refine b_callSi (rest := []) C dX2_setFaulty_56 (ctX2_isOnGrid ec27) mf_X2_isOnGrid ms_X2_isOnGrid kl_X2_86 rfl ⟨rfl, rfl⟩ ⟨Nat.le_of_ble_eq_true rfl, Nat.le_of_ble_eq_true rfl⟩ ⟨Nat.zero_le _, Nat.zero_le _⟩ rfl (Nat.le_of_ble_eq_true rfl) ?_
    refine b_if_ne (tgt := 66) C dX2_setFaulty_59 (by decide) (fun c29 => ?_) (fun c29 => ?_)
    · have h30 := ineg h27 c29; clear h27
      refine b_aload_n C 0 dX2_setFaulty_66 rfl rfl ?_
      refine gX2_72 C X dX2_setFaulty_67 ?_
      refine b_if_eq (tgt := 77) C dX2_setFaulty_70 (by decide) (fun c32 => ?_) (fun c32 => ?_)
      · have h33 := ipos h30 c32; clear h30
        refine b_aload_n C 0 dX2_setFaulty_77 rfl rfl ?_
        refine gX2_34 C X dX2_setFaulty_78 ?_
        refine b_iload_n C 1 dX2_setFaulty_81 rfl rfl ?_
        obtain ⟨g36, h35⟩ := gdn h33; clear h33
        refine lX_10 C X g36 dX2_setFaulty_82 ?_
        obtain ⟨x37, ex37, h38⟩ := lt1_inv h35; clear h35
        refine b_nmI ex37 ?_
        refine b_istore (lv' := [(5, .int x37), (0, .ref (ad 0)), (1, .int a1), (2, .int a2), (3, .int a3), (4, .int a4)]) C dX2_setFaulty_83 (by decide) rfl ?_
        refine b_aload_n C 1 dX2_setFaulty_85 rfl rfl ?_
        refine gX2_34 C X dX2_setFaulty_86 ?_
        refine b_iload_n C 2 dX2_setFaulty_89 rfl rfl ?_
        refine b_iload_n C 3 dX2_setFaulty_90 rfl rfl ?_
        obtain ⟨g40, h39⟩ := gdn h38; clear h38
        refine aX_10 C X g40 dX2_setFaulty_91 ?_
        obtain ⟨σ41, eσ41, h42⟩ := lt1_inv h39; clear h39
        refine b_nmS eσ41 ?_
        refine b_aload_n C 1 dX2_setFaulty_92 rfl rfl ?_
        refine gX2_37 C X dX2_setFaulty_93 ?_
        refine b_iload_n C 2 dX2_setFaulty_96 rfl rfl ?_
        refine b_iload_n C 4 dX2_setFaulty_97 rfl rfl ?_
        refine b_i2l C dX2_setFaulty_98 ?_
        refine b_iload C 5 dX2_setFaulty_99 rfl ?_
        refine b_i2l C dX2_setFaulty_101 ?_
        refine b_aload_n C 1 dX2_setFaulty_102 rfl rfl ?_
        refine gX2_83 C X dX2_setFaulty_103 ?_
        refine b_i2l C dX2_setFaulty_106 ?_
        obtain ⟨r44, ec43, h43⟩ := bd0_inv h42; clear h42
        refine b_callSl (rest := [.int a1, .ref (ad 11)]) C dX2_setFaulty_107 (ctX2_inUnits ec43) mf_X2_inUnits ms_X2_inUnits kl_X2_90 rfl ⟨rfl, rfl⟩ ⟨Nat.le_of_ble_eq_true rfl, Nat.le_of_ble_eq_true rfl⟩ ⟨Nat.zero_le _, Nat.zero_le _⟩ rfl (Nat.le_of_ble_eq_true rfl) ?_
        obtain ⟨g46, h45⟩ := gdn h43; clear h43
        refine aX_11 C X g46 dX2_setFaulty_110 ?_
        obtain ⟨σ47, eσ47, h48⟩ := lt1_inv h45; clear h45
        refine b_nmS eσ47 ?_
        refine b_iload C 0 dX2_setFaulty_111 rfl ?_
        obtain ⟨rfl, rfl⟩ := so2 h48
        exact b_iret C dX2_setFaulty_113 hr
      have h34 := ineg h30 c32; clear h30
      refine b_sipush (v := (-1003 : Int32)) C dX2_setFaulty_73 (by decide) ?_
      obtain ⟨rfl, rfl⟩ := so2 h34
      exact b_iret C dX2_setFaulty_76 hr
    have h31 := ipos h27 c29; clear h27
    refine b_sipush (v := (-1002 : Int32)) C dX2_setFaulty_62 (by decide) ?_
    obtain ⟨rfl, rfl⟩ := so2 h31
    exact b_iret C dX2_setFaulty_65 hr
  have h11 := ipos h6 c9; clear h6
  refine b_sipush (v := (-1001 : Int32)) C dX2_setFaulty_8 (by decide) ?_
  obtain ⟨rfl, rfl⟩ := so2 h11
  exact b_iret C dX2_setFaulty_11 hr
def rmX2_setLink : Room := { frames := 2, cells := 0, slots := 0, locals := 43 }
def fX2_setLink (σ : St) (a1 : Int32) (a2 : Int32) (a3 : Int32) : Option (Int32 × St) :=
  bd2 (fX2_areTwoNodes σ a1 a2) fun r7 σ6 =>
  if r7 = (0 : Int32) then (
  some ((-1001 : Int32), σ6))
  else (
  bd0 (fX2_isWithin a3 (-1 : Int32) (3 : Int32)) fun r12 =>
  if r12 = (0 : Int32) then (
  some ((-1002 : Int32), σ6))
  else (
  bd2 (fX2_delayOf σ6 a1 a2) fun r18 σ17 =>
  if (((a1 * (10 : Int32)) + a2) < 0 ∨ 100 ≤ (((a1 * (10 : Int32)) + a2)).toNatClampNeg) then none else
  lt1 (sF σ17 1 (upd (gF σ17 1) (((a1 * (10 : Int32)) + a2)).toNatClampNeg a3)) fun σ21 =>
  some (r18, σ21)))
theorem ctX2_setLink {l : Launch} {ad : Nat → Nat} {ca : Nat → ClassId} {σ : St} {a1 : Int32} {a2 : Int32} {a3 : Int32} {rf : Int32} {σf : St} (h : fX2_setLink σ a1 a2 a3 = some (rf, σf)) : Cw l yX2_setLink cX2_setLink 5 (some .int) rmX2_setLink [.ref (ad 0), .int a1, .int a2, .int a3] (wX ad ca) (tyX ca) σ (some (.int rf)) σf := by
  refine Cw_of (by decide) (sameX ad ca) (Nat.le_of_ble_eq_true rfl) ?_
  intro p e s m args below meth c D A C X hr
  replace C : Cb p s m args meth c RX2 cX2_setLink 5 := C
  have h4 := h; clear h
  refine b_sub (lv' := [(0, .ref (ad 0)), (1, .int a1), (2, .int a2), (3, .int a3)]) [0, 1, 2, 3] rfl ?_
  refine b_aload_n C 0 dX2_setLink_0 rfl rfl ?_
  refine b_iload_n C 1 dX2_setLink_1 rfl rfl ?_
  refine b_iload_n C 2 dX2_setLink_2 rfl rfl ?_
  obtain ⟨r7, σ6, ec5, h5⟩ := bd2_inv h4; clear h4
  refine b_callWi (rest := []) C (sameX ad ca) X dX2_setLink_3 (ctX2_areTwoNodes ec5) mf_X2_areTwoNodes mi_X2_areTwoNodes kl_X2_79 0 rfl rfl rfl rfl ⟨rfl, rfl⟩ ⟨Nat.le_of_ble_eq_true rfl, Nat.le_of_ble_eq_true rfl⟩ ⟨Nat.zero_le _, Nat.zero_le _⟩ rfl (Nat.le_of_ble_eq_true rfl) ?_
  refine b_if_ne (tgt := 13) C dX2_setLink_6 (by decide) (fun c8 => ?_) (fun c8 => ?_)
  · have h9 := ineg h5 c8; clear h5
    refine b_iload_n C 3 dX2_setLink_13 rfl rfl ?_
    refine b_iconst (v := (-1 : Int32)) C dX2_setLink_14 (by decide) ?_
    refine b_iconst (v := (3 : Int32)) C dX2_setLink_15 (by decide) ?_
    obtain ⟨r12, ec11, h11⟩ := bd0_inv h9; clear h9
    refine b_callSi (rest := []) C dX2_setLink_16 (ctX2_isWithin ec11) mf_X2_isWithin ms_X2_isWithin kl_X2_49 rfl ⟨rfl, rfl⟩ ⟨Nat.le_of_ble_eq_true rfl, Nat.le_of_ble_eq_true rfl⟩ ⟨Nat.zero_le _, Nat.zero_le _⟩ rfl (Nat.le_of_ble_eq_true rfl) ?_
    refine b_if_ne (tgt := 26) C dX2_setLink_19 (by decide) (fun c13 => ?_) (fun c13 => ?_)
    · have h14 := ineg h11 c13; clear h11
      refine b_aload_n C 0 dX2_setLink_26 rfl rfl ?_
      refine b_iload_n C 1 dX2_setLink_27 rfl rfl ?_
      refine b_iload_n C 2 dX2_setLink_28 rfl rfl ?_
      obtain ⟨r18, σ17, ec16, h16⟩ := bd2_inv h14; clear h14
      refine b_callWi (rest := []) C (sameX ad ca) X dX2_setLink_29 (ctX2_delayOf ec16) mf_X2_delayOf mi_X2_delayOf kl_X2_94 0 rfl rfl rfl rfl ⟨rfl, rfl⟩ ⟨Nat.le_of_ble_eq_true rfl, Nat.le_of_ble_eq_true rfl⟩ ⟨Nat.zero_le _, Nat.zero_le _⟩ rfl (Nat.le_of_ble_eq_true rfl) ?_
      refine b_istore (lv' := [(4, .int r18), (0, .ref (ad 0)), (1, .int a1), (2, .int a2), (3, .int a3)]) C dX2_setLink_32 (by decide) rfl ?_
      refine b_aload_n C 1 dX2_setLink_34 rfl rfl ?_
      refine gX2_30 C X dX2_setLink_35 ?_
      refine b_iload_n C 2 dX2_setLink_38 rfl rfl ?_
      refine b_bipush (v := (10 : Int32)) C dX2_setLink_39 (by decide) ?_
      refine b_imul C dX2_setLink_41 ?_
      refine b_iload_n C 3 dX2_setLink_42 rfl rfl ?_
      refine b_iadd C dX2_setLink_43 ?_
      refine b_iload_n C 4 dX2_setLink_44 rfl rfl ?_
      obtain ⟨g20, h19⟩ := gdn h16; clear h16
      refine aX_9 C X g20 dX2_setLink_45 ?_
      obtain ⟨σ21, eσ21, h22⟩ := lt1_inv h19; clear h19
      refine b_nmS eσ21 ?_
      refine b_iload C 0 dX2_setLink_46 rfl ?_
      obtain ⟨rfl, rfl⟩ := so2 h22
      exact b_iret C dX2_setLink_48 hr
    have h15 := ipos h11 c13; clear h11
    refine b_sipush (v := (-1002 : Int32)) C dX2_setLink_22 (by decide) ?_
    obtain ⟨rfl, rfl⟩ := so2 h15
    exact b_iret C dX2_setLink_25 hr
  have h10 := ipos h5 c8; clear h5
  refine b_sipush (v := (-1001 : Int32)) C dX2_setLink_9 (by decide) ?_
  obtain ⟨rfl, rfl⟩ := so2 h10
  exact b_iret C dX2_setLink_12 hr
