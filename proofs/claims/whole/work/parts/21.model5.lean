def rmX3_runTo : Room := { frames := 6, cells := 0, slots := 0, locals := 155 }
def fX3_runTo (N : Nat) (σ : St) (a1 : Int32) (a2 : Int32) (a3 : Int32) : Option (Int32 × St) :=
  bd0 (fX3_isGoal a1 a2 a3) fun r6 =>
  if r6 = (0 : Int32) then (
  some ((-1002 : Int32), σ))
  else (
  lt1 (gI σ 3) fun x10 =>
  bd2 (fX3_goTo N σ a1 a2 a3) fun r14 σ13 =>
  if (0 : Int32) ≤ r14 then (
  lt1 (sI σ13 3 (gI σ13 3)) fun σ18 =>
  if (0 : Int32) ≤ r14 then (
  some (r14, σ18))
  else (
  some ((-1005 : Int32), σ18)))
  else (
  lt1 (sI σ13 3 x10) fun σ23 =>
  if (0 : Int32) ≤ r14 then (
  some (r14, σ23))
  else (
  some ((-1005 : Int32), σ23))))
theorem ctX3_runTo {l : Launch} {ad : Nat → Nat} {ca : Nat → ClassId} {N : Nat} {σ : St} {a1 : Int32} {a2 : Int32} {a3 : Int32} {rf : Int32} {σf : St} (h : fX3_runTo N σ a1 a2 a3 = some (rf, σf)) : Cw l yX3_runTo cX3_runTo 6 (some .int) rmX3_runTo [.ref (ad 0), .int a1, .int a2, .int a3] (wM ad ca) (tyM ca) σ (some (.int rf)) σf := by
  refine Cw_of (by decide) (sameM ad ca) (Nat.le_of_ble_eq_true rfl) ?_
  intro p e s m args below meth c D A C X hr
  replace C : Cb p s m args meth c RX3 cX3_runTo 6 := C
  have h4 := h; clear h
  refine b_sub (lv' := [(0, .ref (ad 0)), (1, .int a1), (2, .int a2), (3, .int a3)]) [0, 1, 2, 3] rfl ?_
  refine b_iload_n C 1 dX3_runTo_0 rfl rfl ?_
  refine b_iload_n C 2 dX3_runTo_1 rfl rfl ?_
  refine b_iload_n C 3 dX3_runTo_2 rfl rfl ?_
  obtain ⟨r6, ec5, h5⟩ := bd0_inv h4; clear h4
  refine b_callSi (rest := []) C dX3_runTo_3 (ctX3_isGoal ec5) mf_X3_isGoal ms_X3_isGoal kl_X3_187 rfl ⟨rfl, rfl⟩ ⟨Nat.le_of_ble_eq_true rfl, Nat.le_of_ble_eq_true rfl⟩ ⟨Nat.zero_le _, Nat.zero_le _⟩ rfl (Nat.le_of_ble_eq_true rfl) ?_
  refine b_if_ne (tgt := 13) C dX3_runTo_6 (by decide) (fun c7 => ?_) (fun c7 => ?_)
  · have h8 := ineg h5 c7; clear h5
    refine b_aload_n C 0 dX3_runTo_13 rfl rfl ?_
    refine gX3_64 C X dX3_runTo_14 ?_
    obtain ⟨x10, ex10, h11⟩ := lt1_inv h8; clear h8
    refine b_nmI ex10 ?_
    refine b_istore (lv' := [(4, .int x10), (0, .ref (ad 0)), (1, .int a1), (2, .int a2), (3, .int a3)]) C dX3_runTo_17 (by decide) rfl ?_
    refine b_aload_n C 1 dX3_runTo_19 rfl rfl ?_
    refine b_iload_n C 2 dX3_runTo_20 rfl rfl ?_
    refine b_iload_n C 3 dX3_runTo_21 rfl rfl ?_
    refine b_iload_n C 4 dX3_runTo_22 rfl rfl ?_
    obtain ⟨r14, σ13, ec12, h12⟩ := bd2_inv h11; clear h11
    refine b_callWi (rest := []) C (sameM ad ca) X dX3_runTo_23 (ctX3_goTo ec12) mf_X3_goTo mi_X3_goTo kl_X3_191 0 rfl rfl rfl rfl ⟨rfl, rfl⟩ ⟨Nat.le_of_ble_eq_true rfl, Nat.le_of_ble_eq_true rfl⟩ ⟨Nat.zero_le _, Nat.zero_le _⟩ rfl (Nat.le_of_ble_eq_true rfl) ?_
    refine b_istore (lv' := [(5, .int r14), (4, .int x10), (0, .ref (ad 0)), (1, .int a1), (2, .int a2), (3, .int a3)]) C dX3_runTo_26 (by decide) rfl ?_
    refine b_aload_n C 2 dX3_runTo_28 rfl rfl ?_
    refine b_iload C 0 dX3_runTo_29 rfl ?_
    refine b_if_ge (tgt := 39) C dX3_runTo_31 (by decide) (fun c15 => ?_) (fun c15 => ?_)
    · have h16 := ipos h12 c15; clear h12
      refine b_aload_n C 2 dX3_runTo_39 rfl rfl ?_
      refine gX3_64 C X dX3_runTo_40 ?_
      refine pX3_64 C X dX3_runTo_43 ?_
      obtain ⟨σ18, eσ18, h19⟩ := lt1_inv h16; clear h16
      refine b_nmS eσ18 ?_
      refine b_iload C 0 dX3_runTo_46 rfl ?_
      refine b_if_ge (tgt := 57) C dX3_runTo_48 (by decide) (fun c20 => ?_) (fun c20 => ?_)
      · have h21 := ipos h19 c20; clear h19
        refine b_iload C 0 dX3_runTo_57 rfl ?_
        obtain ⟨rfl, rfl⟩ := so2 h21
        exact b_iret C dX3_runTo_59 hr
      have h22 := ineg h19 c20; clear h19
      refine b_sipush (v := (-1005 : Int32)) C dX3_runTo_51 (by decide) ?_
      refine b_goto (tgt := 59) C dX3_runTo_54 (by decide) ?_
      obtain ⟨rfl, rfl⟩ := so2 h22
      exact b_iret C dX3_runTo_59 hr
    have h17 := ineg h12 c15; clear h12
    refine b_iload C 1 dX3_runTo_34 rfl ?_
    refine b_goto (tgt := 43) C dX3_runTo_36 (by decide) ?_
    refine pX3_64 C X dX3_runTo_43 ?_
    obtain ⟨σ23, eσ23, h24⟩ := lt1_inv h17; clear h17
    refine b_nmS eσ23 ?_
    refine b_iload C 0 dX3_runTo_46 rfl ?_
    refine b_if_ge (tgt := 57) C dX3_runTo_48 (by decide) (fun c25 => ?_) (fun c25 => ?_)
    · have h26 := ipos h24 c25; clear h24
      refine b_iload C 0 dX3_runTo_57 rfl ?_
      obtain ⟨rfl, rfl⟩ := so2 h26
      exact b_iret C dX3_runTo_59 hr
    have h27 := ineg h24 c25; clear h24
    refine b_sipush (v := (-1005 : Int32)) C dX3_runTo_51 (by decide) ?_
    refine b_goto (tgt := 59) C dX3_runTo_54 (by decide) ?_
    obtain ⟨rfl, rfl⟩ := so2 h27
    exact b_iret C dX3_runTo_59 hr
  have h9 := ipos h5 c7; clear h5
  refine b_sipush (v := (-1002 : Int32)) C dX3_runTo_9 (by decide) ?_
  obtain ⟨rfl, rfl⟩ := so2 h9
  exact b_iret C dX3_runTo_12 hr
def rmX3_back : Room := { frames := 1, cells := 0, slots := 0, locals := 25 }
def fX3_back (σ : St) (a1 : Int32) : Option (Int32 × St) :=
  bd0 (fX3_within (a1.toInt64) (0 : Int64) ((gI σ 3).toInt64)) fun r4 =>
  if r4 = (0 : Int32) then (
  some ((-1002 : Int32), σ))
  else (
  lt1 (sI σ 3 ((gI σ 3) - a1)) fun σ8 =>
  some ((gI σ8 3), σ8))
theorem ctX3_back {l : Launch} {ad : Nat → Nat} {ca : Nat → ClassId} {σ : St} {a1 : Int32} {rf : Int32} {σf : St} (h : fX3_back σ a1 = some (rf, σf)) : Cw l yX3_back cX3_back 2 (some .int) rmX3_back [.ref (ad 0), .int a1] (wM ad ca) (tyM ca) σ (some (.int rf)) σf := by
  refine Cw_of (by decide) (sameM ad ca) (Nat.le_of_ble_eq_true rfl) ?_
  intro p e s m args below meth c D A C X hr
  replace C : Cb p s m args meth c RX3 cX3_back 2 := C
  have h2 := h; clear h
  refine b_sub (lv' := [(0, .ref (ad 0)), (1, .int a1)]) [0, 1] rfl ?_
  refine b_iload_n C 1 dX3_back_0 rfl rfl ?_
  refine b_i2l C dX3_back_1 ?_
  refine b_lconst (v := (0 : Int64)) C dX3_back_2 (by decide) ?_
  refine b_aload_n C 0 dX3_back_3 rfl rfl ?_
  refine gX3_64 C X dX3_back_4 ?_
  refine b_i2l C dX3_back_7 ?_
  obtain ⟨r4, ec3, h3⟩ := bd0_inv h2; clear h2
  refine b_callSi (rest := []) C dX3_back_8 (ctX3_within ec3) mf_X3_within ms_X3_within kl_X3_71 rfl ⟨rfl, rfl⟩ ⟨Nat.le_of_ble_eq_true rfl, Nat.le_of_ble_eq_true rfl⟩ ⟨Nat.zero_le _, Nat.zero_le _⟩ rfl (Nat.le_of_ble_eq_true rfl) ?_
  refine b_if_ne (tgt := 18) C dX3_back_11 (by decide) (fun c5 => ?_) (fun c5 => ?_)
  · have h6 := ineg h3 c5; clear h3
    refine b_aload_n C 0 dX3_back_18 rfl rfl ?_
    refine b_dup C dX3_back_19 rfl ?_
    refine gX3_64 C X dX3_back_20 ?_
    refine b_iload_n C 1 dX3_back_23 rfl rfl ?_
    refine b_isub C dX3_back_24 ?_
    refine pX3_64 C X dX3_back_25 ?_
    obtain ⟨σ8, eσ8, h9⟩ := lt1_inv h6; clear h6
    refine b_nmS eσ8 ?_
    refine b_aload_n C 0 dX3_back_28 rfl rfl ?_
    refine gX3_64 C X dX3_back_29 ?_
    obtain ⟨rfl, rfl⟩ := so2 h9
    exact b_iret C dX3_back_32 hr
  have h7 := ipos h3 c5; clear h3
  refine b_sipush (v := (-1002 : Int32)) C dX3_back_14 (by decide) ?_
  obtain ⟨rfl, rfl⟩ := so2 h7
  exact b_iret C dX3_back_17 hr
def rmX3_value : Room := { frames := 2, cells := 0, slots := 0, locals := 55 }
def fX3_value (N : Nat) (σ : St) (a1 : Int32) (a2 : Int32) (a3 : Int32) (a4 : Int32) : Option (Int64 × St) :=
  bd2 (fX3_noNode σ a1) fun r8 σ7 =>
  if r8 = (0 : Int32) then (
  bd0 (fX3_within (a2.toInt64) (0 : Int64) ((gI σ7 3).toInt64)) fun r15 =>
  if r15 = (0 : Int32) then (
  bd0 (fX3_lost) fun r20 =>
  some (r20, σ7))
  else (
  bd2 (fX3_isCorrect σ7 a1) fun r23 σ22 =>
  if r23 = (0 : Int32) then (
  bd0 (fX3_lost) fun r41 =>
  some (r41, σ22))
  else (
  if a3 = (0 : Int32) then (
  bd2 (fX3_end σ22 a1 a2 (0 : Int32)) fun r32 σ31 =>
  bd0 (fX3_part N r32 (gJ σ31 0) a4) fun r34 =>
  some (r34, σ31))
  else (
  bd2 (fX3_end σ22 a1 a2 (1 : Int32)) fun r37 σ36 =>
  bd0 (fX3_part N r37 (gJ σ36 0) a4) fun r39 =>
  some (r39, σ36)))))
  else (
  bd0 (fX3_lost) fun r13 =>
  some (r13, σ7))
theorem ctX3_value {l : Launch} {ad : Nat → Nat} {ca : Nat → ClassId} {N : Nat} {σ : St} {a1 : Int32} {a2 : Int32} {a3 : Int32} {a4 : Int32} {rf : Int64} {σf : St} (h : fX3_value N σ a1 a2 a3 a4 = some (rf, σf)) : Cw l yX3_value cX3_value 5 (some .long) rmX3_value [.ref (ad 0), .int a1, .int a2, .int a3, .int a4] (wM ad ca) (tyM ca) σ (some (.long rf)) σf := by
  refine Cw_of (by decide) (sameM ad ca) (Nat.le_of_ble_eq_true rfl) ?_
  intro p e s m args below meth c D A C X hr
  replace C : Cb p s m args meth c RX3 cX3_value 5 := C
  have h5 := h; clear h
  refine b_sub (lv' := [(0, .ref (ad 0)), (1, .int a1), (2, .int a2), (3, .int a3), (4, .int a4)]) [0, 1, 2, 3, 4] rfl ?_
  refine b_aload_n C 0 dX3_value_0 rfl rfl ?_
  refine b_iload_n C 1 dX3_value_1 rfl rfl ?_
  obtain ⟨r8, σ7, ec6, h6⟩ := bd2_inv h5; clear h5
  refine b_callWi (rest := []) C (sameM ad ca) X dX3_value_2 (ctX3_noNode ec6) mf_X3_noNode mi_X3_noNode kl_X3_117 0 rfl rfl rfl rfl ⟨rfl, rfl⟩ ⟨Nat.le_of_ble_eq_true rfl, Nat.le_of_ble_eq_true rfl⟩ ⟨Nat.zero_le _, Nat.zero_le _⟩ rfl (Nat.le_of_ble_eq_true rfl) ?_
  refine b_if_ne (tgt := 30) C dX3_value_5 (by decide) (fun c9 => ?_) (fun c9 => ?_)
  · have h10 := ineg h6 c9; clear h6
    obtain ⟨r13, ec12, h12⟩ := bd0_inv h10; clear h10
    refine b_callSl (rest := []) C dX3_value_30 (ctX3_lost ec12) mf_X3_lost ms_X3_lost kl_X3_195 rfl ⟨rfl, rfl⟩ ⟨Nat.le_of_ble_eq_true rfl, Nat.le_of_ble_eq_true rfl⟩ ⟨Nat.zero_le _, Nat.zero_le _⟩ rfl (Nat.le_of_ble_eq_true rfl) ?_
    obtain ⟨rfl, rfl⟩ := so2 h12
    exact b_lret C dX3_value_33 hr
  have h11 := ipos h6 c9; clear h6
  refine b_iload_n C 2 dX3_value_8 rfl rfl ?_
  refine b_i2l C dX3_value_9 ?_
  refine b_lconst (v := (0 : Int64)) C dX3_value_10 (by decide) ?_
  refine b_aload_n C 0 dX3_value_11 rfl rfl ?_
  refine gX3_64 C X dX3_value_12 ?_
  refine b_i2l C dX3_value_15 ?_
  obtain ⟨r15, ec14, h14⟩ := bd0_inv h11; clear h11
  refine b_callSi (rest := []) C dX3_value_16 (ctX3_within ec14) mf_X3_within ms_X3_within kl_X3_71 rfl ⟨rfl, rfl⟩ ⟨Nat.le_of_ble_eq_true rfl, Nat.le_of_ble_eq_true rfl⟩ ⟨Nat.zero_le _, Nat.zero_le _⟩ rfl (Nat.le_of_ble_eq_true rfl) ?_
  refine b_if_eq (tgt := 30) C dX3_value_19 (by decide) (fun c16 => ?_) (fun c16 => ?_)
  · have h17 := ipos h14 c16; clear h14
    obtain ⟨r20, ec19, h19⟩ := bd0_inv h17; clear h17
    refine b_callSl (rest := []) C dX3_value_30 (ctX3_lost ec19) mf_X3_lost ms_X3_lost kl_X3_195 rfl ⟨rfl, rfl⟩ ⟨Nat.le_of_ble_eq_true rfl, Nat.le_of_ble_eq_true rfl⟩ ⟨Nat.zero_le _, Nat.zero_le _⟩ rfl (Nat.le_of_ble_eq_true rfl) ?_
    obtain ⟨rfl, rfl⟩ := so2 h19
    exact b_lret C dX3_value_33 hr
  have h18 := ineg h14 c16; clear h14
  refine b_aload_n C 0 dX3_value_22 rfl rfl ?_
  refine b_iload_n C 1 dX3_value_23 rfl rfl ?_
  obtain ⟨r23, σ22, ec21, h21⟩ := bd2_inv h18; clear h18
  refine b_callWi (rest := []) C (sameM ad ca) X dX3_value_24 (ctX3_isCorrect ec21) mf_X3_isCorrect mi_X3_isCorrect kl_X3_133 0 rfl rfl rfl rfl ⟨rfl, rfl⟩ ⟨Nat.le_of_ble_eq_true rfl, Nat.le_of_ble_eq_true rfl⟩ ⟨Nat.zero_le _, Nat.zero_le _⟩ rfl (Nat.le_of_ble_eq_true rfl) ?_
  refine b_if_ne (tgt := 34) C dX3_value_27 (by decide) (fun c24 => ?_) (fun c24 => ?_)
  · have h25 := ineg h21 c24; clear h21
    refine b_aload_n C 0 dX3_value_34 rfl rfl ?_
    refine b_iload_n C 1 dX3_value_35 rfl rfl ?_
    refine b_iload_n C 2 dX3_value_36 rfl rfl ?_
    refine b_iload_n C 3 dX3_value_37 rfl rfl ?_
    refine b_if_eq (tgt := 45) C dX3_value_38 (by decide) (fun c27 => ?_) (fun c27 => ?_)
    · have h28 := ipos h25 c27; clear h25
      refine b_iconst (v := (0 : Int32)) C dX3_value_45 (by decide) ?_
      obtain ⟨r32, σ31, ec30, h30⟩ := bd2_inv h28; clear h28
      refine b_callWl (rest := []) C (sameM ad ca) X dX3_value_46 (ctX3_end ec30) mf_X3_end mi_X3_end kl_X3_136 0 rfl rfl rfl rfl ⟨rfl, rfl⟩ ⟨Nat.le_of_ble_eq_true rfl, Nat.le_of_ble_eq_true rfl⟩ ⟨Nat.zero_le _, Nat.zero_le _⟩ rfl (Nat.le_of_ble_eq_true rfl) ?_
      refine b_aload_n C 0 dX3_value_49 rfl rfl ?_
      refine gX3_57 C X dX3_value_50 ?_
      refine b_iload C 4 dX3_value_53 rfl ?_
      obtain ⟨r34, ec33, h33⟩ := bd0_inv h30; clear h30
      refine b_callSl (rest := []) C dX3_value_55 (ctX3_part ec33) mf_X3_part ms_X3_part kl_X3_198 rfl ⟨rfl, rfl⟩ ⟨Nat.le_of_ble_eq_true rfl, Nat.le_of_ble_eq_true rfl⟩ ⟨Nat.zero_le _, Nat.zero_le _⟩ rfl (Nat.le_of_ble_eq_true rfl) ?_
      obtain ⟨rfl, rfl⟩ := so2 h33
      exact b_lret C dX3_value_58 hr
    have h29 := ineg h25 c27; clear h25
    refine b_iconst (v := (1 : Int32)) C dX3_value_41 (by decide) ?_
    refine b_goto (tgt := 46) C dX3_value_42 (by decide) ?_
    obtain ⟨r37, σ36, ec35, h35⟩ := bd2_inv h29; clear h29
    refine b_callWl (rest := []) C (sameM ad ca) X dX3_value_46 (ctX3_end ec35) mf_X3_end mi_X3_end kl_X3_136 0 rfl rfl rfl rfl ⟨rfl, rfl⟩ ⟨Nat.le_of_ble_eq_true rfl, Nat.le_of_ble_eq_true rfl⟩ ⟨Nat.zero_le _, Nat.zero_le _⟩ rfl (Nat.le_of_ble_eq_true rfl) ?_
    refine b_aload_n C 0 dX3_value_49 rfl rfl ?_
    refine gX3_57 C X dX3_value_50 ?_
    refine b_iload C 4 dX3_value_53 rfl ?_
    obtain ⟨r39, ec38, h38⟩ := bd0_inv h35; clear h35
    refine b_callSl (rest := []) C dX3_value_55 (ctX3_part ec38) mf_X3_part ms_X3_part kl_X3_198 rfl ⟨rfl, rfl⟩ ⟨Nat.le_of_ble_eq_true rfl, Nat.le_of_ble_eq_true rfl⟩ ⟨Nat.zero_le _, Nat.zero_le _⟩ rfl (Nat.le_of_ble_eq_true rfl) ?_
    obtain ⟨rfl, rfl⟩ := so2 h38
    exact b_lret C dX3_value_58 hr
  have h26 := ipos h21 c24; clear h21
  obtain ⟨r41, ec40, h40⟩ := bd0_inv h26; clear h26
  refine b_callSl (rest := []) C dX3_value_30 (ctX3_lost ec40) mf_X3_lost ms_X3_lost kl_X3_195 rfl ⟨rfl, rfl⟩ ⟨Nat.le_of_ble_eq_true rfl, Nat.le_of_ble_eq_true rfl⟩ ⟨Nat.zero_le _, Nat.zero_le _⟩ rfl (Nat.le_of_ble_eq_true rfl) ?_
  obtain ⟨rfl, rfl⟩ := so2 h40
  exact b_lret C dX3_value_33 hr
def rmX3_input : Room := { frames := 2, cells := 0, slots := 0, locals := 55 }
def fX3_input (N : Nat) (σ : St) (a1 : Int32) (a2 : Int32) (a3 : Int32) : Option (Int64 × St) :=
  bd2 (fX3_noNode σ a1) fun r7 σ6 =>
  if r7 = (0 : Int32) then (
  if a2 = (0 : Int32) then (
  if ((((2 : Int32) * a1) + (0 : Int32)) < 0 ∨ 20 ≤ ((((2 : Int32) * a1) + (0 : Int32))).toNatClampNeg) then none else
  bd0 (fX3_part N (gG σ6 0 ((((2 : Int32) * a1) + (0 : Int32))).toNatClampNeg) (gJ σ6 0) a3) fun r17 =>
  some (r17, σ6))
  else (
  if ((((2 : Int32) * a1) + (1 : Int32)) < 0 ∨ 20 ≤ ((((2 : Int32) * a1) + (1 : Int32))).toNatClampNeg) then none else
  bd0 (fX3_part N (gG σ6 0 ((((2 : Int32) * a1) + (1 : Int32))).toNatClampNeg) (gJ σ6 0) a3) fun r21 =>
  some (r21, σ6)))
  else (
  bd0 (fX3_lost) fun r23 =>
  some (r23, σ6))
theorem ctX3_input {l : Launch} {ad : Nat → Nat} {ca : Nat → ClassId} {N : Nat} {σ : St} {a1 : Int32} {a2 : Int32} {a3 : Int32} {rf : Int64} {σf : St} (h : fX3_input N σ a1 a2 a3 = some (rf, σf)) : Cw l yX3_input cX3_input 4 (some .long) rmX3_input [.ref (ad 0), .int a1, .int a2, .int a3] (wM ad ca) (tyM ca) σ (some (.long rf)) σf := by
  refine Cw_of (by decide) (sameM ad ca) (Nat.le_of_ble_eq_true rfl) ?_
  intro p e s m args below meth c D A C X hr
  replace C : Cb p s m args meth c RX3 cX3_input 4 := C
  have h4 := h; clear h
  refine b_sub (lv' := [(0, .ref (ad 0)), (1, .int a1), (2, .int a2), (3, .int a3)]) [0, 1, 2, 3] rfl ?_
  refine b_aload_n C 0 dX3_input_0 rfl rfl ?_
  refine b_iload_n C 1 dX3_input_1 rfl rfl ?_
  obtain ⟨r7, σ6, ec5, h5⟩ := bd2_inv h4; clear h4
  refine b_callWi (rest := []) C (sameM ad ca) X dX3_input_2 (ctX3_noNode ec5) mf_X3_noNode mi_X3_noNode kl_X3_117 0 rfl rfl rfl rfl ⟨rfl, rfl⟩ ⟨Nat.le_of_ble_eq_true rfl, Nat.le_of_ble_eq_true rfl⟩ ⟨Nat.zero_le _, Nat.zero_le _⟩ rfl (Nat.le_of_ble_eq_true rfl) ?_
  refine b_if_eq (tgt := 14) C dX3_input_5 (by decide) (fun c8 => ?_) (fun c8 => ?_)
  · have h9 := ipos h5 c8; clear h5
    refine b_aload_n C 0 dX3_input_14 rfl rfl ?_
    refine gX3_7 C X dX3_input_15 ?_
    refine b_iconst (v := (2 : Int32)) C dX3_input_18 (by decide) ?_
    refine b_iload_n C 1 dX3_input_19 rfl rfl ?_
    refine b_imul C dX3_input_20 ?_
    refine b_iload_n C 2 dX3_input_21 rfl rfl ?_
    refine b_if_eq (tgt := 29) C dX3_input_22 (by decide) (fun c11 => ?_) (fun c11 => ?_)
    · have h12 := ipos h9 c11; clear h9
      refine b_iconst (v := (0 : Int32)) C dX3_input_29 (by decide) ?_
      refine b_iadd C dX3_input_30 ?_
      obtain ⟨g15, h14⟩ := gdn h12; clear h12
      refine lM_1 C X g15 dX3_input_31 ?_
      refine b_aload_n C 0 dX3_input_32 rfl rfl ?_
      refine gX3_57 C X dX3_input_33 ?_
      refine b_iload_n C 3 dX3_input_36 rfl rfl ?_
      obtain ⟨r17, ec16, h16⟩ := bd0_inv h14; clear h14
      refine b_callSl (rest := []) C dX3_input_37 (ctX3_part ec16) mf_X3_part ms_X3_part kl_X3_198 rfl ⟨rfl, rfl⟩ ⟨Nat.le_of_ble_eq_true rfl, Nat.le_of_ble_eq_true rfl⟩ ⟨Nat.zero_le _, Nat.zero_le _⟩ rfl (Nat.le_of_ble_eq_true rfl) ?_
      obtain ⟨rfl, rfl⟩ := so2 h16
      exact b_lret C dX3_input_40 hr
    have h13 := ineg h9 c11; clear h9
    refine b_iconst (v := (1 : Int32)) C dX3_input_25 (by decide) ?_
    refine b_goto (tgt := 30) C dX3_input_26 (by decide) ?_
    refine b_iadd C dX3_input_30 ?_
    obtain ⟨g19, h18⟩ := gdn h13; clear h13
    refine lM_1 C X g19 dX3_input_31 ?_
    refine b_aload_n C 0 dX3_input_32 rfl rfl ?_
    refine gX3_57 C X dX3_input_33 ?_
    refine b_iload_n C 3 dX3_input_36 rfl rfl ?_
    obtain ⟨r21, ec20, h20⟩ := bd0_inv h18; clear h18
    refine b_callSl (rest := []) C dX3_input_37 (ctX3_part ec20) mf_X3_part ms_X3_part kl_X3_198 rfl ⟨rfl, rfl⟩ ⟨Nat.le_of_ble_eq_true rfl, Nat.le_of_ble_eq_true rfl⟩ ⟨Nat.zero_le _, Nat.zero_le _⟩ rfl (Nat.le_of_ble_eq_true rfl) ?_
    obtain ⟨rfl, rfl⟩ := so2 h20
    exact b_lret C dX3_input_40 hr
  have h10 := ineg h5 c8; clear h5
  obtain ⟨r23, ec22, h22⟩ := bd0_inv h10; clear h10
  refine b_callSl (rest := []) C dX3_input_8 (ctX3_lost ec22) mf_X3_lost ms_X3_lost kl_X3_195 rfl ⟨rfl, rfl⟩ ⟨Nat.le_of_ble_eq_true rfl, Nat.le_of_ble_eq_true rfl⟩ ⟨Nat.zero_le _, Nat.zero_le _⟩ rfl (Nat.le_of_ble_eq_true rfl) ?_
  refine b_goto (tgt := 40) C dX3_input_11 (by decide) ?_
  obtain ⟨rfl, rfl⟩ := so2 h22
  exact b_lret C dX3_input_40 hr
def rmX3_noReceiver : Room := { frames := 2, cells := 0, slots := 0, locals := 46 }
def fX3_noReceiver (σ : St) (a1 : Int32) : Option (Int32 × St) :=
  bd2 (fX3_noNode σ a1) fun r5 σ4 =>
  if r5 = (0 : Int32) then (
  bd2 (fX3_isCorrect σ4 a1) fun r11 σ10 =>
  if r11 = (0 : Int32) then (
  some ((1 : Int32), σ10))
  else (
  some ((0 : Int32), σ10)))
  else (
  some ((1 : Int32), σ4))
theorem ctX3_noReceiver {l : Launch} {ad : Nat → Nat} {ca : Nat → ClassId} {σ : St} {a1 : Int32} {rf : Int32} {σf : St} (h : fX3_noReceiver σ a1 = some (rf, σf)) : Cw l yX3_noReceiver cX3_noReceiver 2 (some .boolean) rmX3_noReceiver [.ref (ad 0), .int a1] (wM ad ca) (tyM ca) σ (some (.int rf)) σf := by
  refine Cw_of (by decide) (sameM ad ca) (Nat.le_of_ble_eq_true rfl) ?_
  intro p e s m args below meth c D A C X hr
  replace C : Cb p s m args meth c RX3 cX3_noReceiver 2 := C
  have h2 := h; clear h
  refine b_sub (lv' := [(0, .ref (ad 0)), (1, .int a1)]) [0, 1] rfl ?_
  refine b_aload_n C 0 dX3_noReceiver_0 rfl rfl ?_
  refine b_iload_n C 1 dX3_noReceiver_1 rfl rfl ?_
  obtain ⟨r5, σ4, ec3, h3⟩ := bd2_inv h2; clear h2
  refine b_callWi (rest := []) C (sameM ad ca) X dX3_noReceiver_2 (ctX3_noNode ec3) mf_X3_noNode mi_X3_noNode kl_X3_117 0 rfl rfl rfl rfl ⟨rfl, rfl⟩ ⟨Nat.le_of_ble_eq_true rfl, Nat.le_of_ble_eq_true rfl⟩ ⟨Nat.zero_le _, Nat.zero_le _⟩ rfl (Nat.le_of_ble_eq_true rfl) ?_
  refine b_if_ne (tgt := 16) C dX3_noReceiver_5 (by decide) (fun c6 => ?_) (fun c6 => ?_)
  · have h7 := ineg h3 c6; clear h3
    refine b_iconst (v := (1 : Int32)) C dX3_noReceiver_16 (by decide) ?_
    refine b_goto (tgt := 21) C dX3_noReceiver_17 (by decide) ?_
    obtain ⟨rfl, rfl⟩ := so2 h7
    exact b_zret C dX3_noReceiver_21 hr rfl
  have h8 := ipos h3 c6; clear h3
  refine b_aload_n C 0 dX3_noReceiver_8 rfl rfl ?_
  refine b_iload_n C 1 dX3_noReceiver_9 rfl rfl ?_
  obtain ⟨r11, σ10, ec9, h9⟩ := bd2_inv h8; clear h8
  refine b_callWi (rest := []) C (sameM ad ca) X dX3_noReceiver_10 (ctX3_isCorrect ec9) mf_X3_isCorrect mi_X3_isCorrect kl_X3_133 0 rfl rfl rfl rfl ⟨rfl, rfl⟩ ⟨Nat.le_of_ble_eq_true rfl, Nat.le_of_ble_eq_true rfl⟩ ⟨Nat.zero_le _, Nat.zero_le _⟩ rfl (Nat.le_of_ble_eq_true rfl) ?_
  refine b_if_ne (tgt := 20) C dX3_noReceiver_13 (by decide) (fun c12 => ?_) (fun c12 => ?_)
  · have h13 := ineg h9 c12; clear h9
    refine b_iconst (v := (0 : Int32)) C dX3_noReceiver_20 (by decide) ?_
    obtain ⟨rfl, rfl⟩ := so2 h13
    exact b_zret C dX3_noReceiver_21 hr rfl
  have h14 := ipos h9 c12; clear h9
  refine b_iconst (v := (1 : Int32)) C dX3_noReceiver_16 (by decide) ?_
  refine b_goto (tgt := 21) C dX3_noReceiver_17 (by decide) ?_
  obtain ⟨rfl, rfl⟩ := so2 h14
  exact b_zret C dX3_noReceiver_21 hr rfl
def rmX3_received : Room := { frames := 3, cells := 0, slots := 0, locals := 81 }
def fX3_received (N : Nat) (σ : St) (a1 : Int32) (a2 : Int32) (a3 : Int32) (a4 : Int32) : Option (Int64 × St) :=
  bd2 (fX3_noReceiver σ a1) fun r8 σ7 =>
  if r8 = (0 : Int32) then (
  bd2 (fX3_noNode σ7 a2) fun r16 σ15 =>
  if r16 = (0 : Int32) then (
  bd2 (fX3_isSent σ15 a2 a1) fun r24 σ23 =>
  if r24 = (0 : Int32) then (
  bd0 (fX3_lost) fun r42 =>
  some (r42, σ23))
  else (
  if a3 = (0 : Int32) then (
  bd2 (fX3_sent N σ23 a2 a1 (0 : Int32)) fun r33 σ32 =>
  bd0 (fX3_part N r33 (gJ σ32 0) a4) fun r35 =>
  some (r35, σ32))
  else (
  bd2 (fX3_sent N σ23 a2 a1 (1 : Int32)) fun r38 σ37 =>
  bd0 (fX3_part N r38 (gJ σ37 0) a4) fun r40 =>
  some (r40, σ37))))
  else (
  bd0 (fX3_lost) fun r21 =>
  some (r21, σ15)))
  else (
  bd0 (fX3_lost) fun r13 =>
  some (r13, σ7))
theorem ctX3_received {l : Launch} {ad : Nat → Nat} {ca : Nat → ClassId} {N : Nat} {σ : St} {a1 : Int32} {a2 : Int32} {a3 : Int32} {a4 : Int32} {rf : Int64} {σf : St} (h : fX3_received N σ a1 a2 a3 a4 = some (rf, σf)) : Cw l yX3_received cX3_received 5 (some .long) rmX3_received [.ref (ad 0), .int a1, .int a2, .int a3, .int a4] (wM ad ca) (tyM ca) σ (some (.long rf)) σf := by
  refine Cw_of (by decide) (sameM ad ca) (Nat.le_of_ble_eq_true rfl) ?_
  intro p e s m args below meth c D A C X hr
  replace C : Cb p s m args meth c RX3 cX3_received 5 := C
  have h5 := h; clear h
  refine b_sub (lv' := [(0, .ref (ad 0)), (1, .int a1), (2, .int a2), (3, .int a3), (4, .int a4)]) [0, 1, 2, 3, 4] rfl ?_
  refine b_aload_n C 0 dX3_received_0 rfl rfl ?_
  refine b_iload_n C 1 dX3_received_1 rfl rfl ?_
  obtain ⟨r8, σ7, ec6, h6⟩ := bd2_inv h5; clear h5
  refine b_callWi (rest := []) C (sameM ad ca) X dX3_received_2 (ctX3_noReceiver ec6) mf_X3_noReceiver mi_X3_noReceiver kl_X3_202 0 rfl rfl rfl rfl ⟨rfl, rfl⟩ ⟨Nat.le_of_ble_eq_true rfl, Nat.le_of_ble_eq_true rfl⟩ ⟨Nat.zero_le _, Nat.zero_le _⟩ rfl (Nat.le_of_ble_eq_true rfl) ?_
  refine b_if_ne (tgt := 25) C dX3_received_5 (by decide) (fun c9 => ?_) (fun c9 => ?_)
  · have h10 := ineg h6 c9; clear h6
    obtain ⟨r13, ec12, h12⟩ := bd0_inv h10; clear h10
    refine b_callSl (rest := []) C dX3_received_25 (ctX3_lost ec12) mf_X3_lost ms_X3_lost kl_X3_195 rfl ⟨rfl, rfl⟩ ⟨Nat.le_of_ble_eq_true rfl, Nat.le_of_ble_eq_true rfl⟩ ⟨Nat.zero_le _, Nat.zero_le _⟩ rfl (Nat.le_of_ble_eq_true rfl) ?_
    obtain ⟨rfl, rfl⟩ := so2 h12
    exact b_lret C dX3_received_28 hr
  have h11 := ipos h6 c9; clear h6
  refine b_aload_n C 0 dX3_received_8 rfl rfl ?_
  refine b_iload_n C 2 dX3_received_9 rfl rfl ?_
  obtain ⟨r16, σ15, ec14, h14⟩ := bd2_inv h11; clear h11
  refine b_callWi (rest := []) C (sameM ad ca) X dX3_received_10 (ctX3_noNode ec14) mf_X3_noNode mi_X3_noNode kl_X3_117 0 rfl rfl rfl rfl ⟨rfl, rfl⟩ ⟨Nat.le_of_ble_eq_true rfl, Nat.le_of_ble_eq_true rfl⟩ ⟨Nat.zero_le _, Nat.zero_le _⟩ rfl (Nat.le_of_ble_eq_true rfl) ?_
  refine b_if_ne (tgt := 25) C dX3_received_13 (by decide) (fun c17 => ?_) (fun c17 => ?_)
  · have h18 := ineg h14 c17; clear h14
    obtain ⟨r21, ec20, h20⟩ := bd0_inv h18; clear h18
    refine b_callSl (rest := []) C dX3_received_25 (ctX3_lost ec20) mf_X3_lost ms_X3_lost kl_X3_195 rfl ⟨rfl, rfl⟩ ⟨Nat.le_of_ble_eq_true rfl, Nat.le_of_ble_eq_true rfl⟩ ⟨Nat.zero_le _, Nat.zero_le _⟩ rfl (Nat.le_of_ble_eq_true rfl) ?_
    obtain ⟨rfl, rfl⟩ := so2 h20
    exact b_lret C dX3_received_28 hr
  have h19 := ipos h14 c17; clear h14
  refine b_aload_n C 0 dX3_received_16 rfl rfl ?_
  refine b_iload_n C 2 dX3_received_17 rfl rfl ?_
  refine b_iload_n C 1 dX3_received_18 rfl rfl ?_
  obtain ⟨r24, σ23, ec22, h22⟩ := bd2_inv h19; clear h19
  refine b_callWi (rest := []) C (sameM ad ca) X dX3_received_19 (ctX3_isSent ec22) mf_X3_isSent mi_X3_isSent kl_X3_162 0 rfl rfl rfl rfl ⟨rfl, rfl⟩ ⟨Nat.le_of_ble_eq_true rfl, Nat.le_of_ble_eq_true rfl⟩ ⟨Nat.zero_le _, Nat.zero_le _⟩ rfl (Nat.le_of_ble_eq_true rfl) ?_
  refine b_if_ne (tgt := 29) C dX3_received_22 (by decide) (fun c25 => ?_) (fun c25 => ?_)
  · have h26 := ineg h22 c25; clear h22
    refine b_aload_n C 0 dX3_received_29 rfl rfl ?_
    refine b_iload_n C 2 dX3_received_30 rfl rfl ?_
    refine b_iload_n C 1 dX3_received_31 rfl rfl ?_
    refine b_iload_n C 3 dX3_received_32 rfl rfl ?_
    refine b_if_eq (tgt := 40) C dX3_received_33 (by decide) (fun c28 => ?_) (fun c28 => ?_)
    · have h29 := ipos h26 c28; clear h26
      refine b_iconst (v := (0 : Int32)) C dX3_received_40 (by decide) ?_
      obtain ⟨r33, σ32, ec31, h31⟩ := bd2_inv h29; clear h29
      refine b_callWl (rest := []) C (sameM ad ca) X dX3_received_41 (ctX3_sent ec31) mf_X3_sent mi_X3_sent kl_X3_165 0 rfl rfl rfl rfl ⟨rfl, rfl⟩ ⟨Nat.le_of_ble_eq_true rfl, Nat.le_of_ble_eq_true rfl⟩ ⟨Nat.zero_le _, Nat.zero_le _⟩ rfl (Nat.le_of_ble_eq_true rfl) ?_
      refine b_aload_n C 0 dX3_received_44 rfl rfl ?_
      refine gX3_57 C X dX3_received_45 ?_
      refine b_iload C 4 dX3_received_48 rfl ?_
      obtain ⟨r35, ec34, h34⟩ := bd0_inv h31; clear h31
      refine b_callSl (rest := []) C dX3_received_50 (ctX3_part ec34) mf_X3_part ms_X3_part kl_X3_198 rfl ⟨rfl, rfl⟩ ⟨Nat.le_of_ble_eq_true rfl, Nat.le_of_ble_eq_true rfl⟩ ⟨Nat.zero_le _, Nat.zero_le _⟩ rfl (Nat.le_of_ble_eq_true rfl) ?_
      obtain ⟨rfl, rfl⟩ := so2 h34
      exact b_lret C dX3_received_53 hr
    have h30 := ineg h26 c28; clear h26
    refine b_iconst (v := (1 : Int32)) C dX3_received_36 (by decide) ?_
    refine b_goto (tgt := 41) C dX3_received_37 (by decide) ?_
    obtain ⟨r38, σ37, ec36, h36⟩ := bd2_inv h30; clear h30
    refine b_callWl (rest := []) C (sameM ad ca) X dX3_received_41 (ctX3_sent ec36) mf_X3_sent mi_X3_sent kl_X3_165 0 rfl rfl rfl rfl ⟨rfl, rfl⟩ ⟨Nat.le_of_ble_eq_true rfl, Nat.le_of_ble_eq_true rfl⟩ ⟨Nat.zero_le _, Nat.zero_le _⟩ rfl (Nat.le_of_ble_eq_true rfl) ?_
    refine b_aload_n C 0 dX3_received_44 rfl rfl ?_
    refine gX3_57 C X dX3_received_45 ?_
    refine b_iload C 4 dX3_received_48 rfl ?_
    obtain ⟨r40, ec39, h39⟩ := bd0_inv h36; clear h36
    refine b_callSl (rest := []) C dX3_received_50 (ctX3_part ec39) mf_X3_part ms_X3_part kl_X3_198 rfl ⟨rfl, rfl⟩ ⟨Nat.le_of_ble_eq_true rfl, Nat.le_of_ble_eq_true rfl⟩ ⟨Nat.zero_le _, Nat.zero_le _⟩ rfl (Nat.le_of_ble_eq_true rfl) ?_
    obtain ⟨rfl, rfl⟩ := so2 h39
    exact b_lret C dX3_received_53 hr
  have h27 := ipos h22 c25; clear h22
  obtain ⟨r42, ec41, h41⟩ := bd0_inv h27; clear h27
  refine b_callSl (rest := []) C dX3_received_25 (ctX3_lost ec41) mf_X3_lost ms_X3_lost kl_X3_195 rfl ⟨rfl, rfl⟩ ⟨Nat.le_of_ble_eq_true rfl, Nat.le_of_ble_eq_true rfl⟩ ⟨Nat.zero_le _, Nat.zero_le _⟩ rfl (Nat.le_of_ble_eq_true rfl) ?_
  obtain ⟨rfl, rfl⟩ := so2 h41
  exact b_lret C dX3_received_28 hr
def rmX3_rest : Room := { frames := 4, cells := 0, slots := 0, locals := 107 }
def fX3_rest_23 (N : Nat) (σ19 : St) (x15 : Int32) (x16 : Int32) (x17 : Int32) (x18 : Int32) : Option (Int64 × St) :=
  bd0 (fX3_gather N σ19 x18 x17) fun σ22 =>
  bd0 (fX3_within (x15.toInt64) (0 : Int64) ((((gI σ22 7) - ((2 : Int32) * (gI σ22 1))) - (1 : Int32)).toInt64)) fun r24 =>
  if r24 = (0 : Int32) then (
  bd0 (fX3_lost) fun r29 =>
  some (r29, σ22))
  else (
  if (((gI σ22 1) + x15) < 0 ∨ 10 ≤ (((gI σ22 1) + x15)).toNatClampNeg) then none else
  bd0 (fX3_part N (gG σ22 5 (((gI σ22 1) + x15)).toNatClampNeg) (gJ σ22 0) x16) fun r33 =>
  some (r33, σ22))
def fX3_rest (N : Nat) (σ : St) (a1 : Int32) (a2 : Int32) (a3 : Int32) (a4 : Int32) : Option (Int64 × St) :=
  bd2 (fX3_noReceiver σ a1) fun r8 σ7 =>
  if r8 = (0 : Int32) then (
  if a3 = (0 : Int32) then (
  fX3_rest_23 N σ7 a2 a4 (0 : Int32) a1)
  else (
  fX3_rest_23 N σ7 a2 a4 (1 : Int32) a1))
  else (
  bd0 (fX3_lost) fun r35 =>
  some (r35, σ7))
theorem wX3_rest_23 {l : Launch} {p : Program} {e : Env} {s : State} {m : MethodId} {args : Array Value} {below : List Frame} {meth : Method} {c : Code} {D : va_G} {A : Nat → Prop} {ad : Nat → Nat} {ca : Nat → ClassId} {rf : Int64} {σf : St} (C : Cb p s m args meth c RX3 cX3_rest 5) (X : Cx s D A (wM ad ca) (tyM ca)) (hr : meth.sig.returnType = (some .long)) {N : Nat} : ∀ (σ : St) (y0 : Int32) (y1 : Int32) (y2 : Int32) (y3 : Int32), fX3_rest_23 N σ y0 y1 y2 y3 = some (rf, σf) → bW p l e rmX3_rest s m args below meth c 0 0 (MQ below (Qw D (wM ad ca) σf (some (.long rf)) A) args s 0 0 A) 5 (wd D A (wM ad ca) s σ) 23 [(0, .ref (ad 0)), (2, .int y0), (4, .int y1)] [.int y2, .int y3, .ref (ad 0)] := by
  intro σ19 x15 x16 x17 x18 h20
  obtain ⟨σ22, ec21, h21⟩ := bd0_inv h20; clear h20
  refine b_callWv (rest := []) C (sameM ad ca) X dX3_rest_23 (ctX3_gather ec21) mf_X3_gather mi_X3_gather kl_X3_171 0 rfl rfl rfl rfl ⟨rfl, rfl⟩ ⟨Nat.le_of_ble_eq_true rfl, Nat.le_of_ble_eq_true rfl⟩ ⟨Nat.zero_le _, Nat.zero_le _⟩ rfl (Nat.le_of_ble_eq_true rfl) ?_
  refine b_iload_n C 1 dX3_rest_26 rfl rfl ?_
  refine b_i2l C dX3_rest_27 ?_
  refine b_lconst (v := (0 : Int64)) C dX3_rest_28 (by decide) ?_
  refine b_aload_n C 0 dX3_rest_29 rfl rfl ?_
  refine gX3_159 C X dX3_rest_30 ?_
  refine b_iconst (v := (2 : Int32)) C dX3_rest_33 (by decide) ?_
  refine b_aload_n C 0 dX3_rest_34 rfl rfl ?_
  refine gX3_54 C X dX3_rest_35 ?_
  refine b_imul C dX3_rest_38 ?_
  refine b_isub C dX3_rest_39 ?_
  refine b_iconst (v := (1 : Int32)) C dX3_rest_40 (by decide) ?_
  refine b_isub C dX3_rest_41 ?_
  refine b_i2l C dX3_rest_42 ?_
  obtain ⟨r24, ec23, h23⟩ := bd0_inv h21; clear h21
  refine b_callSi (rest := []) C dX3_rest_43 (ctX3_within ec23) mf_X3_within ms_X3_within kl_X3_71 rfl ⟨rfl, rfl⟩ ⟨Nat.le_of_ble_eq_true rfl, Nat.le_of_ble_eq_true rfl⟩ ⟨Nat.zero_le _, Nat.zero_le _⟩ rfl (Nat.le_of_ble_eq_true rfl) ?_
  refine b_if_eq (tgt := 72) C dX3_rest_46 (by decide) (fun c25 => ?_) (fun c25 => ?_)
  · have h26 := ipos h23 c25; clear h23
    obtain ⟨r29, ec28, h28⟩ := bd0_inv h26; clear h26
    refine b_callSl (rest := []) C dX3_rest_72 (ctX3_lost ec28) mf_X3_lost ms_X3_lost kl_X3_195 rfl ⟨rfl, rfl⟩ ⟨Nat.le_of_ble_eq_true rfl, Nat.le_of_ble_eq_true rfl⟩ ⟨Nat.zero_le _, Nat.zero_le _⟩ rfl (Nat.le_of_ble_eq_true rfl) ?_
    obtain ⟨rfl, rfl⟩ := so2 h28
    exact b_lret C dX3_rest_75 hr
  have h27 := ineg h23 c25; clear h23
  refine b_aload_n C 0 dX3_rest_49 rfl rfl ?_
  refine gX3_36 C X dX3_rest_50 ?_
  refine b_aload_n C 0 dX3_rest_53 rfl rfl ?_
  refine gX3_54 C X dX3_rest_54 ?_
  refine b_iload_n C 1 dX3_rest_57 rfl rfl ?_
  refine b_iadd C dX3_rest_58 ?_
  obtain ⟨g31, h30⟩ := gdn h27; clear h27
  refine lM_9 C X g31 dX3_rest_59 ?_
  refine b_aload_n C 0 dX3_rest_60 rfl rfl ?_
  refine gX3_57 C X dX3_rest_61 ?_
  refine b_iload C 2 dX3_rest_64 rfl ?_
  obtain ⟨r33, ec32, h32⟩ := bd0_inv h30; clear h30
  refine b_callSl (rest := []) C dX3_rest_66 (ctX3_part ec32) mf_X3_part ms_X3_part kl_X3_198 rfl ⟨rfl, rfl⟩ ⟨Nat.le_of_ble_eq_true rfl, Nat.le_of_ble_eq_true rfl⟩ ⟨Nat.zero_le _, Nat.zero_le _⟩ rfl (Nat.le_of_ble_eq_true rfl) ?_
  refine b_goto (tgt := 75) C dX3_rest_69 (by decide) ?_
  obtain ⟨rfl, rfl⟩ := so2 h32
  exact b_lret C dX3_rest_75 hr
theorem ctX3_rest {l : Launch} {ad : Nat → Nat} {ca : Nat → ClassId} {N : Nat} {σ : St} {a1 : Int32} {a2 : Int32} {a3 : Int32} {a4 : Int32} {rf : Int64} {σf : St} (h : fX3_rest N σ a1 a2 a3 a4 = some (rf, σf)) : Cw l yX3_rest cX3_rest 5 (some .long) rmX3_rest [.ref (ad 0), .int a1, .int a2, .int a3, .int a4] (wM ad ca) (tyM ca) σ (some (.long rf)) σf := by
  refine Cw_of (by decide) (sameM ad ca) (Nat.le_of_ble_eq_true rfl) ?_
  intro p e s m args below meth c D A C X hr
  replace C : Cb p s m args meth c RX3 cX3_rest 5 := C
  have h5 := h; clear h
  refine b_sub (lv' := [(0, .ref (ad 0)), (1, .int a1), (2, .int a2), (3, .int a3), (4, .int a4)]) [0, 1, 2, 3, 4] rfl ?_
  refine b_aload_n C 0 dX3_rest_0 rfl rfl ?_
  refine b_iload_n C 1 dX3_rest_1 rfl rfl ?_
  obtain ⟨r8, σ7, ec6, h6⟩ := bd2_inv h5; clear h5
  refine b_callWi (rest := []) C (sameM ad ca) X dX3_rest_2 (ctX3_noReceiver ec6) mf_X3_noReceiver mi_X3_noReceiver kl_X3_202 0 rfl rfl rfl rfl ⟨rfl, rfl⟩ ⟨Nat.le_of_ble_eq_true rfl, Nat.le_of_ble_eq_true rfl⟩ ⟨Nat.zero_le _, Nat.zero_le _⟩ rfl (Nat.le_of_ble_eq_true rfl) ?_
  refine b_if_eq (tgt := 12) C dX3_rest_5 (by decide) (fun c9 => ?_) (fun c9 => ?_)
  · have h10 := ipos h6 c9; clear h6
    refine b_aload_n C 0 dX3_rest_12 rfl rfl ?_
    refine b_iload_n C 1 dX3_rest_13 rfl rfl ?_
    refine b_iload_n C 3 dX3_rest_14 rfl rfl ?_
    refine b_if_eq (tgt := 22) C dX3_rest_15 (by decide) (fun c12 => ?_) (fun c12 => ?_)
    · have h13 := ipos h10 c12; clear h10
      refine b_iconst (v := (0 : Int32)) C dX3_rest_22 (by decide) ?_
      exact b_sub [0, 2, 4] rfl (wX3_rest_23 C X hr _ _ _ _ _ h13)
    have h14 := ineg h10 c12; clear h10
    refine b_iconst (v := (1 : Int32)) C dX3_rest_18 (by decide) ?_
    refine b_goto (tgt := 23) C dX3_rest_19 (by decide) ?_
    exact b_sub [0, 2, 4] rfl (wX3_rest_23 C X hr _ _ _ _ _ h14)
  have h11 := ineg h6 c9; clear h6
  obtain ⟨r35, ec34, h34⟩ := bd0_inv h11; clear h11
  refine b_callSl (rest := []) C dX3_rest_8 (ctX3_lost ec34) mf_X3_lost ms_X3_lost kl_X3_195 rfl ⟨rfl, rfl⟩ ⟨Nat.le_of_ble_eq_true rfl, Nat.le_of_ble_eq_true rfl⟩ ⟨Nat.zero_le _, Nat.zero_le _⟩ rfl (Nat.le_of_ble_eq_true rfl) ?_
  obtain ⟨rfl, rfl⟩ := so2 h34
  exact b_lret C dX3_rest_11 hr
def rmX3_mostFrequent : Room := { frames := 3, cells := 0, slots := 0, locals := 69 }
def fX3_mostFrequent_53 (N : Nat) (q21 : St → Int32 → Int32 → Int32 → Int32 → Option (Int32 × St)) (σ28 : St) (x23 : Int32) (x24 : Int32) (x25 : Int32) (x26 : Int32) (x27 : Int32) : Option (Int32 × St) :=
  if x27 ≤ x25 then (
  if x27 ≤ x25 then (
  lt1 (x26 + (1 : Int32)) fun x36 =>
  q21 σ28 x23 x24 x25 x36)
  else (
  lt1 (x26 + (1 : Int32)) fun x38 =>
  q21 σ28 x23 x24 x27 x38))
  else (
  if x27 ≤ x25 then (
  lt1 (x26 + (1 : Int32)) fun x43 =>
  q21 σ28 x23 x26 x25 x43)
  else (
  lt1 (x26 + (1 : Int32)) fun x45 =>
  q21 σ28 x23 x26 x27 x45))
def fX3_mostFrequent_21b (N : Nat) (q87 : St → Int32 → Int32 → Int32 → Option (Int32 × St)) (q21 : St → Int32 → Int32 → Int32 → Int32 → Option (Int32 × St)) (σ12 : St) (x8 : Int32) (x9 : Int32) (x10 : Int32) (x11 : Int32) : Option (Int32 × St) :=
  if (gI σ12 0) ≤ x11 then (
  q87 σ12 x8 x9 x10)
  else (
  bd2 (fX3_isCorrect σ12 x11) fun r19 σ18 =>
  if r19 = (0 : Int32) then (
  fX3_mostFrequent_53 N q21 σ18 x8 x9 x10 x11 (0 : Int32))
  else (
  bd2 (fX3_sameBelow N σ18 x11 (gI σ18 0)) fun r49 σ48 =>
  fX3_mostFrequent_53 N q21 σ48 x8 x9 x10 x11 r49))
def fX3_mostFrequent_21 (N : Nat) (q87 : St → Int32 → Int32 → Int32 → Option (Int32 × St)) : Nat → St → Int32 → Int32 → Int32 → Int32 → Option (Int32 × St)
  | 0, _, _, _, _, _ => none
  | n + 1, σ, x8, x9, x10, x11 => fX3_mostFrequent_21b N q87 (fX3_mostFrequent_21 N q87 n) σ x8 x9 x10 x11
def fX3_mostFrequent (N : Nat) (σ : St) (a1 : Int32) : Option (Int32 × St) :=
  bd0 (fX3_within (a1.toInt64) (0 : Int64) (1 : Int64)) fun r4 =>
  if r4 = (0 : Int32) then (
  some ((-1002 : Int32), σ))
  else (
  fX3_mostFrequent_21 N (fun σ53 x50 x51 x52 =>
 if (0 : Int32) ≤ x51 then (
  if x50 = (0 : Int32) then (
  some (x51, σ53))
  else (
  some (x52, σ53)))
  else (
  some ((-1005 : Int32), σ53))) N σ a1 (-1 : Int32) (0 : Int32) (0 : Int32))
theorem wX3_mostFrequent_53 {l : Launch} {p : Program} {e : Env} {s : State} {m : MethodId} {args : Array Value} {below : List Frame} {meth : Method} {c : Code} {D : va_G} {A : Nat → Prop} {ad : Nat → Nat} {ca : Nat → ClassId} {rf : Int32} {σf : St} (C : Cb p s m args meth c RX3 cX3_mostFrequent 6) (X : Cx s D A (wM ad ca) (tyM ca)) (hr : meth.sig.returnType = (some .int)) {N : Nat} {q21 : St → Int32 → Int32 → Int32 → Int32 → Option (Int32 × St)} (hq21 : ∀ (σ : St) (y0 : Int32) (y1 : Int32) (y2 : Int32) (y3 : Int32), q21 σ y0 y1 y2 y3 = some (rf, σf) → bW p l e rmX3_mostFrequent s m args below meth c 0 0 (MQ below (Qw D (wM ad ca) σf (some (.int rf)) A) args s 0 0 A) 6 (wd D A (wM ad ca) s σ) 21 [(0, .ref (ad 0)), (1, .int y0), (2, .int y1), (3, .int y2), (4, .int y3)] []) : ∀ (σ : St) (y0 : Int32) (y1 : Int32) (y2 : Int32) (y3 : Int32) (y4 : Int32), fX3_mostFrequent_53 N q21 σ y0 y1 y2 y3 y4 = some (rf, σf) → bW p l e rmX3_mostFrequent s m args below meth c 0 0 (MQ below (Qw D (wM ad ca) σf (some (.int rf)) A) args s 0 0 A) 6 (wd D A (wM ad ca) s σ) 53 [(0, .ref (ad 0)), (1, .int y0), (2, .int y1), (3, .int y2), (4, .int y3)] [.int y4] := by
  intro σ28 x23 x24 x25 x26 x27 h29
  refine b_istore (lv' := [(5, .int x27), (0, .ref (ad 0)), (1, .int x23), (2, .int x24), (3, .int x25), (4, .int x26)]) C dX3_mostFrequent_53 (by decide) rfl ?_
  refine b_iload C 0 dX3_mostFrequent_55 rfl ?_
  refine b_iload_n C 4 dX3_mostFrequent_57 rfl rfl ?_
  refine b_icmp_le (tgt := 66) C dX3_mostFrequent_58 (by decide) (fun c30 => ?_) (fun c30 => ?_)
  · have h31 := ipos h29 c30; clear h29
    refine b_iload_n C 3 dX3_mostFrequent_66 rfl rfl ?_
    refine b_istore_n (lv' := [(2, .int x24), (5, .int x27), (0, .ref (ad 0)), (1, .int x23), (3, .int x25), (4, .int x26)]) C dX3_mostFrequent_67 rfl (by decide) rfl ?_
    refine b_iload C 1 dX3_mostFrequent_68 rfl ?_
    refine b_iload_n C 4 dX3_mostFrequent_70 rfl rfl ?_
    refine b_icmp_le (tgt := 79) C dX3_mostFrequent_71 (by decide) (fun c33 => ?_) (fun c33 => ?_)
    · have h34 := ipos h31 c33; clear h31
      refine b_iload_n C 4 dX3_mostFrequent_79 rfl rfl ?_
      refine b_istore_n (lv' := [(3, .int x25), (2, .int x24), (5, .int x27), (0, .ref (ad 0)), (1, .int x23), (4, .int x26)]) C dX3_mostFrequent_80 rfl (by decide) rfl ?_
      obtain ⟨x36, ex36, h37⟩ := lt1_inv h34; clear h34
      refine b_iinc (v := x36) (lv' := [(4, .int x36), (3, .int x25), (2, .int x24), (5, .int x27), (0, .ref (ad 0)), (1, .int x23)]) C 5 dX3_mostFrequent_81 rfl (by rw [ex36]; rfl) (by decide) rfl ?_
      refine b_goto (tgt := 21) C dX3_mostFrequent_84 (by decide) ?_
      exact b_sub [4, 5, 2, 1, 0] rfl (hq21 _ _ _ _ _ h37)
    have h35 := ineg h31 c33; clear h31
    refine b_iload C 1 dX3_mostFrequent_74 rfl ?_
    refine b_goto (tgt := 80) C dX3_mostFrequent_76 (by decide) ?_
    refine b_istore_n (lv' := [(3, .int x27), (2, .int x24), (5, .int x27), (0, .ref (ad 0)), (1, .int x23), (4, .int x26)]) C dX3_mostFrequent_80 rfl (by decide) rfl ?_
    obtain ⟨x38, ex38, h39⟩ := lt1_inv h35; clear h35
    refine b_iinc (v := x38) (lv' := [(4, .int x38), (3, .int x27), (2, .int x24), (5, .int x27), (0, .ref (ad 0)), (1, .int x23)]) C 5 dX3_mostFrequent_81 rfl (by rw [ex38]; rfl) (by decide) rfl ?_
    refine b_goto (tgt := 21) C dX3_mostFrequent_84 (by decide) ?_
    exact b_sub [4, 5, 2, 1, 0] rfl (hq21 _ _ _ _ _ h39)
  have h32 := ineg h29 c30; clear h29
  refine b_iload C 5 dX3_mostFrequent_61 rfl ?_
  refine b_goto (tgt := 67) C dX3_mostFrequent_63 (by decide) ?_
  refine b_istore_n (lv' := [(2, .int x26), (5, .int x27), (0, .ref (ad 0)), (1, .int x23), (3, .int x25), (4, .int x26)]) C dX3_mostFrequent_67 rfl (by decide) rfl ?_
  refine b_iload C 1 dX3_mostFrequent_68 rfl ?_
  refine b_iload_n C 4 dX3_mostFrequent_70 rfl rfl ?_
  refine b_icmp_le (tgt := 79) C dX3_mostFrequent_71 (by decide) (fun c40 => ?_) (fun c40 => ?_)
  · have h41 := ipos h32 c40; clear h32
    refine b_iload_n C 4 dX3_mostFrequent_79 rfl rfl ?_
    refine b_istore_n (lv' := [(3, .int x25), (2, .int x26), (5, .int x27), (0, .ref (ad 0)), (1, .int x23), (4, .int x26)]) C dX3_mostFrequent_80 rfl (by decide) rfl ?_
    obtain ⟨x43, ex43, h44⟩ := lt1_inv h41; clear h41
    refine b_iinc (v := x43) (lv' := [(4, .int x43), (3, .int x25), (2, .int x26), (5, .int x27), (0, .ref (ad 0)), (1, .int x23)]) C 5 dX3_mostFrequent_81 rfl (by rw [ex43]; rfl) (by decide) rfl ?_
    refine b_goto (tgt := 21) C dX3_mostFrequent_84 (by decide) ?_
    exact b_sub [4, 5, 2, 1, 0] rfl (hq21 _ _ _ _ _ h44)
  have h42 := ineg h32 c40; clear h32
  refine b_iload C 1 dX3_mostFrequent_74 rfl ?_
  refine b_goto (tgt := 80) C dX3_mostFrequent_76 (by decide) ?_
  refine b_istore_n (lv' := [(3, .int x27), (2, .int x26), (5, .int x27), (0, .ref (ad 0)), (1, .int x23), (4, .int x26)]) C dX3_mostFrequent_80 rfl (by decide) rfl ?_
  obtain ⟨x45, ex45, h46⟩ := lt1_inv h42; clear h42
  refine b_iinc (v := x45) (lv' := [(4, .int x45), (3, .int x27), (2, .int x26), (5, .int x27), (0, .ref (ad 0)), (1, .int x23)]) C 5 dX3_mostFrequent_81 rfl (by rw [ex45]; rfl) (by decide) rfl ?_
  refine b_goto (tgt := 21) C dX3_mostFrequent_84 (by decide) ?_
  exact b_sub [4, 5, 2, 1, 0] rfl (hq21 _ _ _ _ _ h46)
theorem wX3_mostFrequent_21 {l : Launch} {p : Program} {e : Env} {s : State} {m : MethodId} {args : Array Value} {below : List Frame} {meth : Method} {c : Code} {D : va_G} {A : Nat → Prop} {ad : Nat → Nat} {ca : Nat → ClassId} {rf : Int32} {σf : St} (C : Cb p s m args meth c RX3 cX3_mostFrequent 6) (X : Cx s D A (wM ad ca) (tyM ca)) (hr : meth.sig.returnType = (some .int)) {N : Nat} {q87 : St → Int32 → Int32 → Int32 → Option (Int32 × St)} (hq87 : ∀ (σ : St) (y0 : Int32) (y1 : Int32) (y2 : Int32), q87 σ y0 y1 y2 = some (rf, σf) → bW p l e rmX3_mostFrequent s m args below meth c 0 0 (MQ below (Qw D (wM ad ca) σf (some (.int rf)) A) args s 0 0 A) 6 (wd D A (wM ad ca) s σ) 87 [(1, .int y0), (2, .int y1), (3, .int y2)] []) : ∀ n : Nat, ∀ (σ : St) (y0 : Int32) (y1 : Int32) (y2 : Int32) (y3 : Int32), fX3_mostFrequent_21 N q87 n σ y0 y1 y2 y3 = some (rf, σf) → bW p l e rmX3_mostFrequent s m args below meth c 0 0 (MQ below (Qw D (wM ad ca) σf (some (.int rf)) A) args s 0 0 A) 6 (wd D A (wM ad ca) s σ) 21 [(0, .ref (ad 0)), (1, .int y0), (2, .int y1), (3, .int y2), (4, .int y3)] [] := by
  intro n
  induction n with
  | zero => intro σ12 x8 x9 x10 x11 h13; exact nn h13
  | succ n hq21 =>
    intro σ12 x8 x9 x10 x11 h13
    replace h13 : fX3_mostFrequent_21b N q87 (fX3_mostFrequent_21 N q87 n) σ12 x8 x9 x10 x11 = some (rf, σf) := h13
    refine b_iload C 4 dX3_mostFrequent_21 rfl ?_
    refine b_aload_n C 0 dX3_mostFrequent_23 rfl rfl ?_
    refine gX3_50 C X dX3_mostFrequent_24 ?_
    refine b_icmp_ge (tgt := 87) C dX3_mostFrequent_27 (by decide) (fun c14 => ?_) (fun c14 => ?_)
    · have h15 := ipos h13 c14; clear h13
      exact b_sub [1, 2, 3] rfl (hq87 _ _ _ _ h15)
    have h16 := ineg h13 c14; clear h13
    refine b_aload_n C 0 dX3_mostFrequent_30 rfl rfl ?_
    refine b_iload C 4 dX3_mostFrequent_31 rfl ?_
    obtain ⟨r19, σ18, ec17, h17⟩ := bd2_inv h16; clear h16
    refine b_callWi (rest := []) C (sameM ad ca) X dX3_mostFrequent_33 (ctX3_isCorrect ec17) mf_X3_isCorrect mi_X3_isCorrect kl_X3_133 0 rfl rfl rfl rfl ⟨rfl, rfl⟩ ⟨Nat.le_of_ble_eq_true rfl, Nat.le_of_ble_eq_true rfl⟩ ⟨Nat.zero_le _, Nat.zero_le _⟩ rfl (Nat.le_of_ble_eq_true rfl) ?_
    refine b_if_eq (tgt := 52) C dX3_mostFrequent_36 (by decide) (fun c20 => ?_) (fun c20 => ?_)
    · have h21 := ipos h17 c20; clear h17
      refine b_iconst (v := (0 : Int32)) C dX3_mostFrequent_52 (by decide) ?_
      exact b_sub [0, 1, 2, 3, 4] rfl (wX3_mostFrequent_53 C X hr hq21 _ _ _ _ _ _ h21)
    have h22 := ineg h17 c20; clear h17
    refine b_aload_n C 0 dX3_mostFrequent_39 rfl rfl ?_
    refine b_iload C 4 dX3_mostFrequent_40 rfl ?_
    refine b_aload_n C 0 dX3_mostFrequent_42 rfl rfl ?_
    refine gX3_50 C X dX3_mostFrequent_43 ?_
    obtain ⟨r49, σ48, ec47, h47⟩ := bd2_inv h22; clear h22
    refine b_callWi (rest := []) C (sameM ad ca) X dX3_mostFrequent_46 (ctX3_sameBelow ec47) mf_X3_sameBelow mi_X3_sameBelow kl_X3_143 0 rfl rfl rfl rfl ⟨rfl, rfl⟩ ⟨Nat.le_of_ble_eq_true rfl, Nat.le_of_ble_eq_true rfl⟩ ⟨Nat.zero_le _, Nat.zero_le _⟩ rfl (Nat.le_of_ble_eq_true rfl) ?_
    refine b_goto (tgt := 53) C dX3_mostFrequent_49 (by decide) ?_
    exact b_sub [0, 1, 2, 3, 4] rfl (wX3_mostFrequent_53 C X hr hq21 _ _ _ _ _ _ h47)
theorem ctX3_mostFrequent {l : Launch} {ad : Nat → Nat} {ca : Nat → ClassId} {N : Nat} {σ : St} {a1 : Int32} {rf : Int32} {σf : St} (h : fX3_mostFrequent N σ a1 = some (rf, σf)) : Cw l yX3_mostFrequent cX3_mostFrequent 6 (some .int) rmX3_mostFrequent [.ref (ad 0), .int a1] (wM ad ca) (tyM ca) σ (some (.int rf)) σf := by
  refine Cw_of (by decide) (sameM ad ca) (Nat.le_of_ble_eq_true rfl) ?_
  intro p e s m args below meth c D A C X hr
  replace C : Cb p s m args meth c RX3 cX3_mostFrequent 6 := C
  have h2 := h; clear h
  refine b_sub (lv' := [(0, .ref (ad 0)), (1, .int a1)]) [0, 1] rfl ?_
  refine b_iload_n C 1 dX3_mostFrequent_0 rfl rfl ?_
  refine b_i2l C dX3_mostFrequent_1 ?_
  refine b_lconst (v := (0 : Int64)) C dX3_mostFrequent_2 (by decide) ?_
  refine b_lconst (v := (1 : Int64)) C dX3_mostFrequent_3 (by decide) ?_
  obtain ⟨r4, ec3, h3⟩ := bd0_inv h2; clear h2
  refine b_callSi (rest := []) C dX3_mostFrequent_4 (ctX3_within ec3) mf_X3_within ms_X3_within kl_X3_71 rfl ⟨rfl, rfl⟩ ⟨Nat.le_of_ble_eq_true rfl, Nat.le_of_ble_eq_true rfl⟩ ⟨Nat.zero_le _, Nat.zero_le _⟩ rfl (Nat.le_of_ble_eq_true rfl) ?_
  refine b_if_ne (tgt := 14) C dX3_mostFrequent_7 (by decide) (fun c5 => ?_) (fun c5 => ?_)
  · have h6 := ineg h3 c5; clear h3
    refine b_iconst (v := (-1 : Int32)) C dX3_mostFrequent_14 (by decide) ?_
    refine b_istore_n (lv' := [(2, .int (-1 : Int32)), (0, .ref (ad 0)), (1, .int a1)]) C dX3_mostFrequent_15 rfl (by decide) rfl ?_
    refine b_iconst (v := (0 : Int32)) C dX3_mostFrequent_16 (by decide) ?_
    refine b_istore_n (lv' := [(3, .int (0 : Int32)), (2, .int (-1 : Int32)), (0, .ref (ad 0)), (1, .int a1)]) C dX3_mostFrequent_17 rfl (by decide) rfl ?_
    refine b_iconst (v := (0 : Int32)) C dX3_mostFrequent_18 (by decide) ?_
    refine b_istore (lv' := [(4, .int (0 : Int32)), (3, .int (0 : Int32)), (2, .int (-1 : Int32)), (0, .ref (ad 0)), (1, .int a1)]) C dX3_mostFrequent_19 (by decide) rfl ?_
    refine b_sub [3, 4, 2, 1, 0] rfl (wX3_mostFrequent_21 C X hr (fun σ53 x50 x51 x52 h54 => ?_) _ _ _ _ _ _ h6)
    refine b_iload_n C 1 dX3_mostFrequent_87 rfl rfl ?_
    refine b_if_ge (tgt := 97) C dX3_mostFrequent_88 (by decide) (fun c55 => ?_) (fun c55 => ?_)
    · have h56 := ipos h54 c55; clear h54
      refine b_iload_n C 0 dX3_mostFrequent_97 rfl rfl ?_
      refine b_if_ne (tgt := 105) C dX3_mostFrequent_98 (by decide) (fun c58 => ?_) (fun c58 => ?_)
      · have h59 := ineg h56 c58; clear h56
        refine b_iload_n C 2 dX3_mostFrequent_105 rfl rfl ?_
        obtain ⟨rfl, rfl⟩ := so2 h59
        exact b_iret C dX3_mostFrequent_106 hr
      have h60 := ipos h56 c58; clear h56
      refine b_iload_n C 1 dX3_mostFrequent_101 rfl rfl ?_
      refine b_goto (tgt := 106) C dX3_mostFrequent_102 (by decide) ?_
      obtain ⟨rfl, rfl⟩ := so2 h60
      exact b_iret C dX3_mostFrequent_106 hr
    have h57 := ineg h54 c55; clear h54
    refine b_sipush (v := (-1005 : Int32)) C dX3_mostFrequent_91 (by decide) ?_
    refine b_goto (tgt := 106) C dX3_mostFrequent_94 (by decide) ?_
    obtain ⟨rfl, rfl⟩ := so2 h57
    exact b_iret C dX3_mostFrequent_106 hr
  have h7 := ipos h3 c5; clear h3
  refine b_sipush (v := (-1002 : Int32)) C dX3_mostFrequent_10 (by decide) ?_
  obtain ⟨rfl, rfl⟩ := so2 h7
  exact b_iret C dX3_mostFrequent_13 hr
def rmX3_width : Room := { frames := 2, cells := 0, slots := 0, locals := 55 }
def fX3_width (N : Nat) (σ : St) (a1 : Int32) (a2 : Int32) : Option (Int64 × St) :=
  bd0 (fX3_within (a1.toInt64) (0 : Int64) ((gI σ 3).toInt64)) fun r5 =>
  if r5 = (0 : Int32) then (
  bd0 (fX3_lost) fun r10 =>
  some (r10, σ))
  else (
  bd2 (fX3_widthOf N σ a1) fun r13 σ12 =>
  bd0 (fX3_part N r13 (gJ σ12 0) a2) fun r15 =>
  some (r15, σ12))
theorem ctX3_width {l : Launch} {ad : Nat → Nat} {ca : Nat → ClassId} {N : Nat} {σ : St} {a1 : Int32} {a2 : Int32} {rf : Int64} {σf : St} (h : fX3_width N σ a1 a2 = some (rf, σf)) : Cw l yX3_width cX3_width 3 (some .long) rmX3_width [.ref (ad 0), .int a1, .int a2] (wM ad ca) (tyM ca) σ (some (.long rf)) σf := by
  refine Cw_of (by decide) (sameM ad ca) (Nat.le_of_ble_eq_true rfl) ?_
  intro p e s m args below meth c D A C X hr
  replace C : Cb p s m args meth c RX3 cX3_width 3 := C
  have h3 := h; clear h
  refine b_sub (lv' := [(0, .ref (ad 0)), (1, .int a1), (2, .int a2)]) [0, 1, 2] rfl ?_
  refine b_iload_n C 1 dX3_width_0 rfl rfl ?_
  refine b_i2l C dX3_width_1 ?_
  refine b_lconst (v := (0 : Int64)) C dX3_width_2 (by decide) ?_
  refine b_aload_n C 0 dX3_width_3 rfl rfl ?_
  refine gX3_64 C X dX3_width_4 ?_
  refine b_i2l C dX3_width_7 ?_
  obtain ⟨r5, ec4, h4⟩ := bd0_inv h3; clear h3
  refine b_callSi (rest := []) C dX3_width_8 (ctX3_within ec4) mf_X3_within ms_X3_within kl_X3_71 rfl ⟨rfl, rfl⟩ ⟨Nat.le_of_ble_eq_true rfl, Nat.le_of_ble_eq_true rfl⟩ ⟨Nat.zero_le _, Nat.zero_le _⟩ rfl (Nat.le_of_ble_eq_true rfl) ?_
  refine b_if_eq (tgt := 30) C dX3_width_11 (by decide) (fun c6 => ?_) (fun c6 => ?_)
  · have h7 := ipos h4 c6; clear h4
    obtain ⟨r10, ec9, h9⟩ := bd0_inv h7; clear h7
    refine b_callSl (rest := []) C dX3_width_30 (ctX3_lost ec9) mf_X3_lost ms_X3_lost kl_X3_195 rfl ⟨rfl, rfl⟩ ⟨Nat.le_of_ble_eq_true rfl, Nat.le_of_ble_eq_true rfl⟩ ⟨Nat.zero_le _, Nat.zero_le _⟩ rfl (Nat.le_of_ble_eq_true rfl) ?_
    obtain ⟨rfl, rfl⟩ := so2 h9
    exact b_lret C dX3_width_33 hr
  have h8 := ineg h4 c6; clear h4
  refine b_aload_n C 0 dX3_width_14 rfl rfl ?_
  refine b_iload_n C 1 dX3_width_15 rfl rfl ?_
  obtain ⟨r13, σ12, ec11, h11⟩ := bd2_inv h8; clear h8
  refine b_callWl (rest := []) C (sameM ad ca) X dX3_width_16 (ctX3_widthOf ec11) mf_X3_widthOf mi_X3_widthOf kl_X3_183 0 rfl rfl rfl rfl ⟨rfl, rfl⟩ ⟨Nat.le_of_ble_eq_true rfl, Nat.le_of_ble_eq_true rfl⟩ ⟨Nat.zero_le _, Nat.zero_le _⟩ rfl (Nat.le_of_ble_eq_true rfl) ?_
  refine b_aload_n C 0 dX3_width_19 rfl rfl ?_
  refine gX3_57 C X dX3_width_20 ?_
  refine b_iload_n C 2 dX3_width_23 rfl rfl ?_
  obtain ⟨r15, ec14, h14⟩ := bd0_inv h11; clear h11
  refine b_callSl (rest := []) C dX3_width_24 (ctX3_part ec14) mf_X3_part ms_X3_part kl_X3_198 rfl ⟨rfl, rfl⟩ ⟨Nat.le_of_ble_eq_true rfl, Nat.le_of_ble_eq_true rfl⟩ ⟨Nat.zero_le _, Nat.zero_le _⟩ rfl (Nat.le_of_ble_eq_true rfl) ?_
  refine b_goto (tgt := 33) C dX3_width_27 (by decide) ?_
  obtain ⟨rfl, rfl⟩ := so2 h14
  exact b_lret C dX3_width_33 hr
def rmX3_rate : Room := { frames := 2, cells := 0, slots := 0, locals := 55 }
def fX3_rate (N : Nat) (σ : St) (a1 : Int32) (a2 : Int32) : Option (Int64 × St) :=
  bd0 (fX3_within (a1.toInt64) (1 : Int64) ((gI σ 3).toInt64)) fun r5 =>
  if r5 = (0 : Int32) then (
  bd0 (fX3_lost) fun r10 =>
  some (r10, σ))
  else (
  bd2 (fX3_widthOf N σ (a1 - (1 : Int32))) fun r13 σ12 =>
  if r13 = (0 : Int64) then (
  bd0 (fX3_lost) fun r26 =>
  some (r26, σ12))
  else (
  bd2 (fX3_widthOf N σ12 a1) fun r19 σ18 =>
  bd2 (fX3_widthOf N σ18 (a1 - (1 : Int32))) fun r22 σ21 =>
  bd0 (fX3_part N r19 r22 a2) fun r24 =>
  some (r24, σ21)))
theorem ctX3_rate {l : Launch} {ad : Nat → Nat} {ca : Nat → ClassId} {N : Nat} {σ : St} {a1 : Int32} {a2 : Int32} {rf : Int64} {σf : St} (h : fX3_rate N σ a1 a2 = some (rf, σf)) : Cw l yX3_rate cX3_rate 3 (some .long) rmX3_rate [.ref (ad 0), .int a1, .int a2] (wM ad ca) (tyM ca) σ (some (.long rf)) σf := by
  refine Cw_of (by decide) (sameM ad ca) (Nat.le_of_ble_eq_true rfl) ?_
  intro p e s m args below meth c D A C X hr
  replace C : Cb p s m args meth c RX3 cX3_rate 3 := C
  have h3 := h; clear h
  refine b_sub (lv' := [(0, .ref (ad 0)), (1, .int a1), (2, .int a2)]) [0, 1, 2] rfl ?_
  refine b_iload_n C 1 dX3_rate_0 rfl rfl ?_
  refine b_i2l C dX3_rate_1 ?_
  refine b_lconst (v := (1 : Int64)) C dX3_rate_2 (by decide) ?_
  refine b_aload_n C 0 dX3_rate_3 rfl rfl ?_
  refine gX3_64 C X dX3_rate_4 ?_
  refine b_i2l C dX3_rate_7 ?_
  obtain ⟨r5, ec4, h4⟩ := bd0_inv h3; clear h3
  refine b_callSi (rest := []) C dX3_rate_8 (ctX3_within ec4) mf_X3_within ms_X3_within kl_X3_71 rfl ⟨rfl, rfl⟩ ⟨Nat.le_of_ble_eq_true rfl, Nat.le_of_ble_eq_true rfl⟩ ⟨Nat.zero_le _, Nat.zero_le _⟩ rfl (Nat.le_of_ble_eq_true rfl) ?_
  refine b_if_eq (tgt := 26) C dX3_rate_11 (by decide) (fun c6 => ?_) (fun c6 => ?_)
  · have h7 := ipos h4 c6; clear h4
    obtain ⟨r10, ec9, h9⟩ := bd0_inv h7; clear h7
    refine b_callSl (rest := []) C dX3_rate_26 (ctX3_lost ec9) mf_X3_lost ms_X3_lost kl_X3_195 rfl ⟨rfl, rfl⟩ ⟨Nat.le_of_ble_eq_true rfl, Nat.le_of_ble_eq_true rfl⟩ ⟨Nat.zero_le _, Nat.zero_le _⟩ rfl (Nat.le_of_ble_eq_true rfl) ?_
    obtain ⟨rfl, rfl⟩ := so2 h9
    exact b_lret C dX3_rate_29 hr
  have h8 := ineg h4 c6; clear h4
  refine b_aload_n C 0 dX3_rate_14 rfl rfl ?_
  refine b_iload_n C 1 dX3_rate_15 rfl rfl ?_
  refine b_iconst (v := (1 : Int32)) C dX3_rate_16 (by decide) ?_
  refine b_isub C dX3_rate_17 ?_
  obtain ⟨r13, σ12, ec11, h11⟩ := bd2_inv h8; clear h8
  refine b_callWl (rest := []) C (sameM ad ca) X dX3_rate_18 (ctX3_widthOf ec11) mf_X3_widthOf mi_X3_widthOf kl_X3_183 0 rfl rfl rfl rfl ⟨rfl, rfl⟩ ⟨Nat.le_of_ble_eq_true rfl, Nat.le_of_ble_eq_true rfl⟩ ⟨Nat.zero_le _, Nat.zero_le _⟩ rfl (Nat.le_of_ble_eq_true rfl) ?_
  refine b_lconst (v := (0 : Int64)) C dX3_rate_21 (by decide) ?_
  refine b_lc_ne (tgt := 30) C dX3_rate_22 dX3_rate_23 (by decide) (fun c14 => ?_) (fun c14 => ?_)
  · have h15 := ineg h11 c14; clear h11
    refine b_aload_n C 0 dX3_rate_30 rfl rfl ?_
    refine b_iload_n C 1 dX3_rate_31 rfl rfl ?_
    obtain ⟨r19, σ18, ec17, h17⟩ := bd2_inv h15; clear h15
    refine b_callWl (rest := []) C (sameM ad ca) X dX3_rate_32 (ctX3_widthOf ec17) mf_X3_widthOf mi_X3_widthOf kl_X3_183 0 rfl rfl rfl rfl ⟨rfl, rfl⟩ ⟨Nat.le_of_ble_eq_true rfl, Nat.le_of_ble_eq_true rfl⟩ ⟨Nat.zero_le _, Nat.zero_le _⟩ rfl (Nat.le_of_ble_eq_true rfl) ?_
    refine b_aload_n C 0 dX3_rate_35 rfl rfl ?_
    refine b_iload_n C 1 dX3_rate_36 rfl rfl ?_
    refine b_iconst (v := (1 : Int32)) C dX3_rate_37 (by decide) ?_
    refine b_isub C dX3_rate_38 ?_
    obtain ⟨r22, σ21, ec20, h20⟩ := bd2_inv h17; clear h17
    refine b_callWl (rest := [.long r19]) C (sameM ad ca) X dX3_rate_39 (ctX3_widthOf ec20) mf_X3_widthOf mi_X3_widthOf kl_X3_183 0 rfl rfl rfl rfl ⟨rfl, rfl⟩ ⟨Nat.le_of_ble_eq_true rfl, Nat.le_of_ble_eq_true rfl⟩ ⟨Nat.zero_le _, Nat.zero_le _⟩ rfl (Nat.le_of_ble_eq_true rfl) ?_
    refine b_iload_n C 2 dX3_rate_42 rfl rfl ?_
    obtain ⟨r24, ec23, h23⟩ := bd0_inv h20; clear h20
    refine b_callSl (rest := []) C dX3_rate_43 (ctX3_part ec23) mf_X3_part ms_X3_part kl_X3_198 rfl ⟨rfl, rfl⟩ ⟨Nat.le_of_ble_eq_true rfl, Nat.le_of_ble_eq_true rfl⟩ ⟨Nat.zero_le _, Nat.zero_le _⟩ rfl (Nat.le_of_ble_eq_true rfl) ?_
    obtain ⟨rfl, rfl⟩ := so2 h23
    exact b_lret C dX3_rate_46 hr
  have h16 := ipos h11 c14; clear h11
  obtain ⟨r26, ec25, h25⟩ := bd0_inv h16; clear h16
  refine b_callSl (rest := []) C dX3_rate_26 (ctX3_lost ec25) mf_X3_lost ms_X3_lost kl_X3_195 rfl ⟨rfl, rfl⟩ ⟨Nat.le_of_ble_eq_true rfl, Nat.le_of_ble_eq_true rfl⟩ ⟨Nat.zero_le _, Nat.zero_le _⟩ rfl (Nat.le_of_ble_eq_true rfl) ?_
  obtain ⟨rfl, rfl⟩ := so2 h25
  exact b_lret C dX3_rate_29 hr
def rmX3_guarantee : Room := { frames := 2, cells := 0, slots := 0, locals := 55 }
def fX3_guarantee_51b (N : Nat) (q97 : St → Int32 → Int32 → Int32 → Option (Int64 × St)) (q51 : St → Int32 → Int32 → Int32 → Int32 → Option (Int64 × St)) (σ28 : St) (x24 : Int32) (x25 : Int32) (x26 : Int32) (x27 : Int32) : Option (Int64 × St) :=
  if (gI σ28 0) ≤ x27 then (
  q97 σ28 x24 x25 x26)
  else (
  if x25 = (0 : Int32) then (
  lt1 (x27 + (1 : Int32)) fun x36 =>
  q51 σ28 x24 (0 : Int32) x26 x36)
  else (
  if x26 = x27 then (
  lt1 (x27 + (1 : Int32)) fun x41 =>
  q51 σ28 x24 (1 : Int32) x26 x41)
  else (
  if ((((10 : Int32) * x26) + x27) < 0 ∨ 100 ≤ ((((10 : Int32) * x26) + x27)).toNatClampNeg) then none else
  if (gF σ28 1 ((((10 : Int32) * x26) + x27)).toNatClampNeg) = (0 : Int32) then (
  lt1 (x27 + (1 : Int32)) fun x50 =>
  q51 σ28 x24 (1 : Int32) x26 x50)
  else (
  lt1 (x27 + (1 : Int32)) fun x48 =>
  q51 σ28 x24 (0 : Int32) x26 x48))))
def fX3_guarantee_51 (N : Nat) (q97 : St → Int32 → Int32 → Int32 → Option (Int64 × St)) : Nat → St → Int32 → Int32 → Int32 → Int32 → Option (Int64 × St)
  | 0, _, _, _, _, _ => none
  | n + 1, σ, x24, x25, x26, x27 => fX3_guarantee_51b N q97 (fX3_guarantee_51 N q97 n) σ x24 x25 x26 x27
def fX3_guarantee_40b (N : Nat) (q103 : St → Int32 → Int32 → Option (Int64 × St)) (q40 : St → Int32 → Int32 → Int32 → Option (Int64 × St)) (σ19 : St) (x16 : Int32) (x17 : Int32) (x18 : Int32) : Option (Int64 × St) :=
  if (gI σ19 0) ≤ x18 then (
  q103 σ19 x16 x17)
  else (
  fX3_guarantee_51 N (fun σ55 x52 x53 x54 =>
 lt1 (x54 + (1 : Int32)) fun x57 =>
  q40 σ55 x52 x53 x57) N σ19 x16 x17 x18 (0 : Int32))
def fX3_guarantee_40 (N : Nat) (q103 : St → Int32 → Int32 → Option (Int64 × St)) : Nat → St → Int32 → Int32 → Int32 → Option (Int64 × St)
  | 0, _, _, _, _ => none
  | n + 1, σ, x16, x17, x18 => fX3_guarantee_40b N q103 (fX3_guarantee_40 N q103 n) σ x16 x17 x18
def fX3_guarantee_37 (N : Nat) (σ14 : St) (x12 : Int32) (x13 : Int32) : Option (Int64 × St) :=
  fX3_guarantee_40 N (fun σ61 x59 x60 =>
 if x60 = (0 : Int32) then (
  bd0 (fX3_lost) fun r86 =>
  some (r86, σ61))
  else (
  if (gI σ61 1) = (0 : Int32) then (
  if x59 = (0 : Int32) then (
  some ((0 : Int64), σ61))
  else (
  some ((1 : Int64), σ61)))
  else (
  if (gI σ61 2) = (0 : Int32) then (
  bd0 (fX3_part N ((gI σ61 1).toInt64) (((gI σ61 0) - ((2 : Int32) * (gI σ61 1))).toInt64) x59) fun r81 =>
  some (r81, σ61))
  else (
  if x59 = (0 : Int32) then (
  some ((1 : Int64), σ61))
  else (
  if (gI σ61 2) = (1 : Int32) then (
  some ((2 : Int64), σ61))
  else (
  if (gI σ61 1) = (0 : Int32) then none else
  some (((((((gI σ61 0) - ((2 : Int32) * (gI σ61 1))) - (1 : Int32)) / (gI σ61 1)) + (1 : Int32)).toInt64), σ61))))))) N σ14 x12 x13 (0 : Int32)
def fX3_guarantee_36 (N : Nat) (σ10 : St) (x9 : Int32) : Option (Int64 × St) :=
  fX3_guarantee_37 N σ10 x9 (0 : Int32)
def fX3_guarantee (N : Nat) (σ : St) (a1 : Int32) : Option (Int64 × St) :=
  bd2 (fX3_faulty N σ) fun r5 σ4 =>
  if (gI σ4 1) < r5 then (
  fX3_guarantee_36 N σ4 a1)
  else (
  if (gI σ4 0) ≤ ((3 : Int32) * (gI σ4 1)) then (
  fX3_guarantee_36 N σ4 a1)
  else (
  if (gI σ4 2) = (2 : Int32) then (
  fX3_guarantee_36 N σ4 a1)
  else (
  fX3_guarantee_37 N σ4 a1 (1 : Int32))))
theorem wX3_guarantee_51 {l : Launch} {p : Program} {e : Env} {s : State} {m : MethodId} {args : Array Value} {below : List Frame} {meth : Method} {c : Code} {D : va_G} {A : Nat → Prop} {ad : Nat → Nat} {ca : Nat → ClassId} {rf : Int64} {σf : St} (C : Cb p s m args meth c RX3 cX3_guarantee 5) (X : Cx s D A (wM ad ca) (tyM ca)) (hr : meth.sig.returnType = (some .long)) {N : Nat} {q97 : St → Int32 → Int32 → Int32 → Option (Int64 × St)} (hq97 : ∀ (σ : St) (y0 : Int32) (y1 : Int32) (y2 : Int32), q97 σ y0 y1 y2 = some (rf, σf) → bW p l e rmX3_guarantee s m args below meth c 0 0 (MQ below (Qw D (wM ad ca) σf (some (.long rf)) A) args s 0 0 A) 5 (wd D A (wM ad ca) s σ) 97 [(0, .ref (ad 0)), (1, .int y0), (2, .int y1), (3, .int y2)] []) : ∀ n : Nat, ∀ (σ : St) (y0 : Int32) (y1 : Int32) (y2 : Int32) (y3 : Int32), fX3_guarantee_51 N q97 n σ y0 y1 y2 y3 = some (rf, σf) → bW p l e rmX3_guarantee s m args below meth c 0 0 (MQ below (Qw D (wM ad ca) σf (some (.long rf)) A) args s 0 0 A) 5 (wd D A (wM ad ca) s σ) 51 [(0, .ref (ad 0)), (1, .int y0), (2, .int y1), (3, .int y2), (4, .int y3)] [] := by
  intro n
  induction n with
  | zero => intro σ28 x24 x25 x26 x27 h29; exact nn h29
  | succ n hq51 =>
    intro σ28 x24 x25 x26 x27 h29
    replace h29 : fX3_guarantee_51b N q97 (fX3_guarantee_51 N q97 n) σ28 x24 x25 x26 x27 = some (rf, σf) := h29
    refine b_iload C 4 dX3_guarantee_51 rfl ?_
    refine b_aload_n C 0 dX3_guarantee_53 rfl rfl ?_
    refine gX3_50 C X dX3_guarantee_54 ?_
    refine b_icmp_ge (tgt := 97) C dX3_guarantee_57 (by decide) (fun c30 => ?_) (fun c30 => ?_)
    · have h31 := ipos h29 c30; clear h29
      exact b_sub [0, 1, 2, 3] rfl (hq97 _ _ _ _ h31)
    have h32 := ineg h29 c30; clear h29
    refine b_iload_n C 2 dX3_guarantee_60 rfl rfl ?_
    refine b_if_eq (tgt := 89) C dX3_guarantee_61 (by decide) (fun c33 => ?_) (fun c33 => ?_)
    · have h34 := ipos h32 c33; clear h32
      refine b_iconst (v := (0 : Int32)) C dX3_guarantee_89 (by decide) ?_
      refine b_istore_n (lv' := [(2, .int (0 : Int32)), (0, .ref (ad 0)), (1, .int x24), (3, .int x26), (4, .int x27)]) C dX3_guarantee_90 rfl (by decide) rfl ?_
      obtain ⟨x36, ex36, h37⟩ := lt1_inv h34; clear h34
      refine b_iinc (v := x36) (lv' := [(4, .int x36), (2, .int (0 : Int32)), (0, .ref (ad 0)), (1, .int x24), (3, .int x26)]) C 4 dX3_guarantee_91 rfl (by rw [ex36]; rfl) (by decide) rfl ?_
      refine b_goto (tgt := 51) C dX3_guarantee_94 (by decide) ?_
      exact b_sub [2, 3, 1, 4, 0] rfl (hq51 _ _ _ _ _ h37)
    have h35 := ineg h32 c33; clear h32
    refine b_iload_n C 3 dX3_guarantee_64 rfl rfl ?_
    refine b_iload C 4 dX3_guarantee_65 rfl ?_
    refine b_icmp_eq (tgt := 85) C dX3_guarantee_67 (by decide) (fun c38 => ?_) (fun c38 => ?_)
    · have h39 := ipos h35 c38; clear h35
      refine b_iconst (v := (1 : Int32)) C dX3_guarantee_85 (by decide) ?_
      refine b_goto (tgt := 90) C dX3_guarantee_86 (by decide) ?_
      refine b_istore_n (lv' := [(2, .int (1 : Int32)), (0, .ref (ad 0)), (1, .int x24), (3, .int x26), (4, .int x27)]) C dX3_guarantee_90 rfl (by decide) rfl ?_
      obtain ⟨x41, ex41, h42⟩ := lt1_inv h39; clear h39
      refine b_iinc (v := x41) (lv' := [(4, .int x41), (2, .int (1 : Int32)), (0, .ref (ad 0)), (1, .int x24), (3, .int x26)]) C 4 dX3_guarantee_91 rfl (by rw [ex41]; rfl) (by decide) rfl ?_
      refine b_goto (tgt := 51) C dX3_guarantee_94 (by decide) ?_
      exact b_sub [2, 3, 1, 4, 0] rfl (hq51 _ _ _ _ _ h42)
    have h40 := ineg h35 c38; clear h35
    refine b_aload_n C 0 dX3_guarantee_70 rfl rfl ?_
    refine gX3_26 C X dX3_guarantee_71 ?_
    refine b_bipush (v := (10 : Int32)) C dX3_guarantee_74 (by decide) ?_
    refine b_iload_n C 3 dX3_guarantee_76 rfl rfl ?_
    refine b_imul C dX3_guarantee_77 ?_
    refine b_iload C 4 dX3_guarantee_78 rfl ?_
    refine b_iadd C dX3_guarantee_80 ?_
    obtain ⟨g44, h43⟩ := gdn h40; clear h40
    refine lM_6 C X g44 dX3_guarantee_81 ?_
    refine b_if_ne (tgt := 89) C dX3_guarantee_82 (by decide) (fun c45 => ?_) (fun c45 => ?_)
    · have h46 := ineg h43 c45; clear h43
      refine b_iconst (v := (0 : Int32)) C dX3_guarantee_89 (by decide) ?_
      refine b_istore_n (lv' := [(2, .int (0 : Int32)), (0, .ref (ad 0)), (1, .int x24), (3, .int x26), (4, .int x27)]) C dX3_guarantee_90 rfl (by decide) rfl ?_
      obtain ⟨x48, ex48, h49⟩ := lt1_inv h46; clear h46
      refine b_iinc (v := x48) (lv' := [(4, .int x48), (2, .int (0 : Int32)), (0, .ref (ad 0)), (1, .int x24), (3, .int x26)]) C 4 dX3_guarantee_91 rfl (by rw [ex48]; rfl) (by decide) rfl ?_
      refine b_goto (tgt := 51) C dX3_guarantee_94 (by decide) ?_
      exact b_sub [2, 3, 1, 4, 0] rfl (hq51 _ _ _ _ _ h49)
    have h47 := ipos h43 c45; clear h43
    refine b_iconst (v := (1 : Int32)) C dX3_guarantee_85 (by decide) ?_
    refine b_goto (tgt := 90) C dX3_guarantee_86 (by decide) ?_
    refine b_istore_n (lv' := [(2, .int (1 : Int32)), (0, .ref (ad 0)), (1, .int x24), (3, .int x26), (4, .int x27)]) C dX3_guarantee_90 rfl (by decide) rfl ?_
    obtain ⟨x50, ex50, h51⟩ := lt1_inv h47; clear h47
    refine b_iinc (v := x50) (lv' := [(4, .int x50), (2, .int (1 : Int32)), (0, .ref (ad 0)), (1, .int x24), (3, .int x26)]) C 4 dX3_guarantee_91 rfl (by rw [ex50]; rfl) (by decide) rfl ?_
    refine b_goto (tgt := 51) C dX3_guarantee_94 (by decide) ?_
    exact b_sub [2, 3, 1, 4, 0] rfl (hq51 _ _ _ _ _ h51)
theorem wX3_guarantee_40 {l : Launch} {p : Program} {e : Env} {s : State} {m : MethodId} {args : Array Value} {below : List Frame} {meth : Method} {c : Code} {D : va_G} {A : Nat → Prop} {ad : Nat → Nat} {ca : Nat → ClassId} {rf : Int64} {σf : St} (C : Cb p s m args meth c RX3 cX3_guarantee 5) (X : Cx s D A (wM ad ca) (tyM ca)) (hr : meth.sig.returnType = (some .long)) {N : Nat} {q103 : St → Int32 → Int32 → Option (Int64 × St)} (hq103 : ∀ (σ : St) (y0 : Int32) (y1 : Int32), q103 σ y0 y1 = some (rf, σf) → bW p l e rmX3_guarantee s m args below meth c 0 0 (MQ below (Qw D (wM ad ca) σf (some (.long rf)) A) args s 0 0 A) 5 (wd D A (wM ad ca) s σ) 103 [(0, .ref (ad 0)), (1, .int y0), (2, .int y1)] []) : ∀ n : Nat, ∀ (σ : St) (y0 : Int32) (y1 : Int32) (y2 : Int32), fX3_guarantee_40 N q103 n σ y0 y1 y2 = some (rf, σf) → bW p l e rmX3_guarantee s m args below meth c 0 0 (MQ below (Qw D (wM ad ca) σf (some (.long rf)) A) args s 0 0 A) 5 (wd D A (wM ad ca) s σ) 40 [(0, .ref (ad 0)), (1, .int y0), (2, .int y1), (3, .int y2)] [] := by
  intro n
  induction n with
  | zero => intro σ19 x16 x17 x18 h20; exact nn h20
  | succ n hq40 =>
    intro σ19 x16 x17 x18 h20
    replace h20 : fX3_guarantee_40b N q103 (fX3_guarantee_40 N q103 n) σ19 x16 x17 x18 = some (rf, σf) := h20
    refine b_iload_n C 3 dX3_guarantee_40 rfl rfl ?_
    refine b_aload_n C 0 dX3_guarantee_41 rfl rfl ?_
    refine gX3_50 C X dX3_guarantee_42 ?_
    refine b_icmp_ge (tgt := 103) C dX3_guarantee_45 (by decide) (fun c21 => ?_) (fun c21 => ?_)
    · have h22 := ipos h20 c21; clear h20
      exact b_sub [0, 1, 2] rfl (hq103 _ _ _ h22)
    have h23 := ineg h20 c21; clear h20
    refine b_iconst (v := (0 : Int32)) C dX3_guarantee_48 (by decide) ?_
    refine b_istore (lv' := [(4, .int (0 : Int32)), (0, .ref (ad 0)), (1, .int x16), (2, .int x17), (3, .int x18)]) C dX3_guarantee_49 (by decide) rfl ?_
    refine b_sub [1, 2, 3, 4, 0] rfl (wX3_guarantee_51 C X hr (fun σ55 x52 x53 x54 h56 => ?_) _ _ _ _ _ _ h23)
    obtain ⟨x57, ex57, h58⟩ := lt1_inv h56; clear h56
    refine b_iinc (v := x57) (lv' := [(3, .int x57), (0, .ref (ad 0)), (1, .int x52), (2, .int x53)]) C 3 dX3_guarantee_97 rfl (by rw [ex57]; rfl) (by decide) rfl ?_
    refine b_goto (tgt := 40) C dX3_guarantee_100 (by decide) ?_
    exact b_sub [1, 2, 3, 0] rfl (hq40 _ _ _ _ h58)
theorem wX3_guarantee_37 {l : Launch} {p : Program} {e : Env} {s : State} {m : MethodId} {args : Array Value} {below : List Frame} {meth : Method} {c : Code} {D : va_G} {A : Nat → Prop} {ad : Nat → Nat} {ca : Nat → ClassId} {rf : Int64} {σf : St} (C : Cb p s m args meth c RX3 cX3_guarantee 5) (X : Cx s D A (wM ad ca) (tyM ca)) (hr : meth.sig.returnType = (some .long)) {N : Nat} : ∀ (σ : St) (y0 : Int32) (y1 : Int32), fX3_guarantee_37 N σ y0 y1 = some (rf, σf) → bW p l e rmX3_guarantee s m args below meth c 0 0 (MQ below (Qw D (wM ad ca) σf (some (.long rf)) A) args s 0 0 A) 5 (wd D A (wM ad ca) s σ) 37 [(0, .ref (ad 0)), (1, .int y0)] [.int y1] := by
  intro σ14 x12 x13 h15
  refine b_istore_n (lv' := [(2, .int x13), (0, .ref (ad 0)), (1, .int x12)]) C dX3_guarantee_37 rfl (by decide) rfl ?_
  refine b_iconst (v := (0 : Int32)) C dX3_guarantee_38 (by decide) ?_
  refine b_istore_n (lv' := [(3, .int (0 : Int32)), (2, .int x13), (0, .ref (ad 0)), (1, .int x12)]) C dX3_guarantee_39 rfl (by decide) rfl ?_
  refine b_sub [2, 3, 1, 0] rfl (wX3_guarantee_40 C X hr (fun σ61 x59 x60 h62 => ?_) _ _ _ _ _ h15)
  refine b_iload_n C 2 dX3_guarantee_103 rfl rfl ?_
  refine b_if_ne (tgt := 111) C dX3_guarantee_104 (by decide) (fun c63 => ?_) (fun c63 => ?_)
  · have h64 := ineg h62 c63; clear h62
    refine b_aload_n C 0 dX3_guarantee_111 rfl rfl ?_
    refine gX3_54 C X dX3_guarantee_112 ?_
    refine b_if_ne (tgt := 128) C dX3_guarantee_115 (by decide) (fun c66 => ?_) (fun c66 => ?_)
    · have h67 := ineg h64 c66; clear h64
      refine b_aload_n C 0 dX3_guarantee_128 rfl rfl ?_
      refine gX3_61 C X dX3_guarantee_129 ?_
      refine b_if_ne (tgt := 157) C dX3_guarantee_132 (by decide) (fun c69 => ?_) (fun c69 => ?_)
      · have h70 := ineg h67 c69; clear h67
        refine b_iload_n C 1 dX3_guarantee_157 rfl rfl ?_
        refine b_if_eq (tgt := 199) C dX3_guarantee_158 (by decide) (fun c72 => ?_) (fun c72 => ?_)
        · have h73 := ipos h70 c72; clear h70
          refine b_lconst (v := (1 : Int64)) C dX3_guarantee_199 (by decide) ?_
          obtain ⟨rfl, rfl⟩ := so2 h73
          exact b_lret C dX3_guarantee_200 hr
        have h74 := ineg h70 c72; clear h70
        refine b_aload_n C 0 dX3_guarantee_161 rfl rfl ?_
        refine gX3_61 C X dX3_guarantee_162 ?_
        refine b_iconst (v := (1 : Int32)) C dX3_guarantee_165 (by decide) ?_
        refine b_icmp_ne (tgt := 175) C dX3_guarantee_166 (by decide) (fun c75 => ?_) (fun c75 => ?_)
        · have h76 := ineg h74 c75; clear h74
          refine b_aload_n C 0 dX3_guarantee_175 rfl rfl ?_
          refine gX3_50 C X dX3_guarantee_176 ?_
          refine b_iconst (v := (2 : Int32)) C dX3_guarantee_179 (by decide) ?_
          refine b_aload_n C 0 dX3_guarantee_180 rfl rfl ?_
          refine gX3_54 C X dX3_guarantee_181 ?_
          refine b_imul C dX3_guarantee_184 ?_
          refine b_isub C dX3_guarantee_185 ?_
          refine b_iconst (v := (1 : Int32)) C dX3_guarantee_186 (by decide) ?_
          refine b_isub C dX3_guarantee_187 ?_
          refine b_aload_n C 0 dX3_guarantee_188 rfl rfl ?_
          refine gX3_54 C X dX3_guarantee_189 ?_
          obtain ⟨g79, h78⟩ := gdn h76; clear h76
          refine b_idiv C dX3_guarantee_192 g79 ?_
          refine b_iconst (v := (1 : Int32)) C dX3_guarantee_193 (by decide) ?_
          refine b_iadd C dX3_guarantee_194 ?_
          refine b_i2l C dX3_guarantee_195 ?_
          refine b_goto (tgt := 200) C dX3_guarantee_196 (by decide) ?_
          obtain ⟨rfl, rfl⟩ := so2 h78
          exact b_lret C dX3_guarantee_200 hr
        have h77 := ipos h74 c75; clear h74
        refine b_ldc2 (v := (2 : Int64)) C dX3_guarantee_169 kc_X3_67 ?_
        refine b_goto (tgt := 200) C dX3_guarantee_172 (by decide) ?_
        obtain ⟨rfl, rfl⟩ := so2 h77
        exact b_lret C dX3_guarantee_200 hr
      have h71 := ipos h67 c69; clear h67
      refine b_aload_n C 0 dX3_guarantee_135 rfl rfl ?_
      refine gX3_54 C X dX3_guarantee_136 ?_
      refine b_i2l C dX3_guarantee_139 ?_
      refine b_aload_n C 0 dX3_guarantee_140 rfl rfl ?_
      refine gX3_50 C X dX3_guarantee_141 ?_
      refine b_iconst (v := (2 : Int32)) C dX3_guarantee_144 (by decide) ?_
      refine b_aload_n C 0 dX3_guarantee_145 rfl rfl ?_
      refine gX3_54 C X dX3_guarantee_146 ?_
      refine b_imul C dX3_guarantee_149 ?_
      refine b_isub C dX3_guarantee_150 ?_
      refine b_i2l C dX3_guarantee_151 ?_
      refine b_iload_n C 1 dX3_guarantee_152 rfl rfl ?_
      obtain ⟨r81, ec80, h80⟩ := bd0_inv h71; clear h71
      refine b_callSl (rest := []) C dX3_guarantee_153 (ctX3_part ec80) mf_X3_part ms_X3_part kl_X3_198 rfl ⟨rfl, rfl⟩ ⟨Nat.le_of_ble_eq_true rfl, Nat.le_of_ble_eq_true rfl⟩ ⟨Nat.zero_le _, Nat.zero_le _⟩ rfl (Nat.le_of_ble_eq_true rfl) ?_
      obtain ⟨rfl, rfl⟩ := so2 h80
      exact b_lret C dX3_guarantee_156 hr
    have h68 := ipos h64 c66; clear h64
    refine b_iload_n C 1 dX3_guarantee_118 rfl rfl ?_
    refine b_if_eq (tgt := 126) C dX3_guarantee_119 (by decide) (fun c82 => ?_) (fun c82 => ?_)
    · have h83 := ipos h68 c82; clear h68
      refine b_lconst (v := (0 : Int64)) C dX3_guarantee_126 (by decide) ?_
      obtain ⟨rfl, rfl⟩ := so2 h83
      exact b_lret C dX3_guarantee_127 hr
    have h84 := ineg h68 c82; clear h68
    refine b_lconst (v := (1 : Int64)) C dX3_guarantee_122 (by decide) ?_
    refine b_goto (tgt := 127) C dX3_guarantee_123 (by decide) ?_
    obtain ⟨rfl, rfl⟩ := so2 h84
    exact b_lret C dX3_guarantee_127 hr
  have h65 := ipos h62 c63; clear h62
  obtain ⟨r86, ec85, h85⟩ := bd0_inv h65; clear h65
  refine b_callSl (rest := []) C dX3_guarantee_107 (ctX3_lost ec85) mf_X3_lost ms_X3_lost kl_X3_195 rfl ⟨rfl, rfl⟩ ⟨Nat.le_of_ble_eq_true rfl, Nat.le_of_ble_eq_true rfl⟩ ⟨Nat.zero_le _, Nat.zero_le _⟩ rfl (Nat.le_of_ble_eq_true rfl) ?_
  obtain ⟨rfl, rfl⟩ := so2 h85
  exact b_lret C dX3_guarantee_110 hr
theorem wX3_guarantee_36 {l : Launch} {p : Program} {e : Env} {s : State} {m : MethodId} {args : Array Value} {below : List Frame} {meth : Method} {c : Code} {D : va_G} {A : Nat → Prop} {ad : Nat → Nat} {ca : Nat → ClassId} {rf : Int64} {σf : St} (C : Cb p s m args meth c RX3 cX3_guarantee 5) (X : Cx s D A (wM ad ca) (tyM ca)) (hr : meth.sig.returnType = (some .long)) {N : Nat} : ∀ (σ : St) (y0 : Int32), fX3_guarantee_36 N σ y0 = some (rf, σf) → bW p l e rmX3_guarantee s m args below meth c 0 0 (MQ below (Qw D (wM ad ca) σf (some (.long rf)) A) args s 0 0 A) 5 (wd D A (wM ad ca) s σ) 36 [(0, .ref (ad 0)), (1, .int y0)] [] := by
  intro σ10 x9 h11
  refine b_iconst (v := (0 : Int32)) C dX3_guarantee_36 (by decide) ?_
  exact b_sub [0, 1] rfl (wX3_guarantee_37 C X hr _ _ _ h11)
theorem ctX3_guarantee {l : Launch} {ad : Nat → Nat} {ca : Nat → ClassId} {N : Nat} {σ : St} {a1 : Int32} {rf : Int64} {σf : St} (h : fX3_guarantee N σ a1 = some (rf, σf)) : Cw l yX3_guarantee cX3_guarantee 5 (some .long) rmX3_guarantee [.ref (ad 0), .int a1] (wM ad ca) (tyM ca) σ (some (.long rf)) σf := by
  refine Cw_of (by decide) (sameM ad ca) (Nat.le_of_ble_eq_true rfl) ?_
  intro p e s m args below meth c D A C X hr
  replace C : Cb p s m args meth c RX3 cX3_guarantee 5 := C
  have h2 := h; clear h
  refine b_sub (lv' := [(0, .ref (ad 0)), (1, .int a1)]) [0, 1] rfl ?_
  refine b_aload_n C 0 dX3_guarantee_0 rfl rfl ?_
  obtain ⟨r5, σ4, ec3, h3⟩ := bd2_inv h2; clear h2
  refine b_callWi (rest := []) C (sameM ad ca) X dX3_guarantee_1 (ctX3_faulty ec3) mf_X3_faulty mi_X3_faulty kl_X3_147 0 rfl rfl rfl rfl ⟨rfl, rfl⟩ ⟨Nat.le_of_ble_eq_true rfl, Nat.le_of_ble_eq_true rfl⟩ ⟨Nat.zero_le _, Nat.zero_le _⟩ rfl (Nat.le_of_ble_eq_true rfl) ?_
  refine b_aload_n C 0 dX3_guarantee_4 rfl rfl ?_
  refine gX3_54 C X dX3_guarantee_5 ?_
  refine b_icmp_gt (tgt := 36) C dX3_guarantee_8 (by decide) (fun c6 => ?_) (fun c6 => ?_)
  · have h7 := ipos h3 c6; clear h3
    exact b_sub [0, 1] rfl (wX3_guarantee_36 C X hr _ _ h7)
  have h8 := ineg h3 c6; clear h3
  refine b_aload_n C 0 dX3_guarantee_11 rfl rfl ?_
  refine gX3_50 C X dX3_guarantee_12 ?_
  refine b_iconst (v := (3 : Int32)) C dX3_guarantee_15 (by decide) ?_
  refine b_aload_n C 0 dX3_guarantee_16 rfl rfl ?_
  refine gX3_54 C X dX3_guarantee_17 ?_
  refine b_imul C dX3_guarantee_20 ?_
  refine b_icmp_le (tgt := 36) C dX3_guarantee_21 (by decide) (fun c87 => ?_) (fun c87 => ?_)
  · have h88 := ipos h8 c87; clear h8
    exact b_sub [0, 1] rfl (wX3_guarantee_36 C X hr _ _ h88)
  have h89 := ineg h8 c87; clear h8
  refine b_aload_n C 0 dX3_guarantee_24 rfl rfl ?_
  refine gX3_61 C X dX3_guarantee_25 ?_
  refine b_iconst (v := (2 : Int32)) C dX3_guarantee_28 (by decide) ?_
  refine b_icmp_eq (tgt := 36) C dX3_guarantee_29 (by decide) (fun c90 => ?_) (fun c90 => ?_)
  · have h91 := ipos h89 c90; clear h89
    exact b_sub [0, 1] rfl (wX3_guarantee_36 C X hr _ _ h91)
  have h92 := ineg h89 c90; clear h89
  refine b_iconst (v := (1 : Int32)) C dX3_guarantee_32 (by decide) ?_
  refine b_goto (tgt := 37) C dX3_guarantee_33 (by decide) ?_
  exact b_sub [0, 1] rfl (wX3_guarantee_37 C X hr _ _ _ h92)
