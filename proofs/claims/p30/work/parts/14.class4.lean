def rmX2_roundsTo : Room := { frames := 6, cells := 0, slots := 0, locals := 153 }
def fX2_roundsTo (N : Nat) (σ : St) (a1 : Int32) (a2 : Int32) (a3 : Int32) : Option (Int32 × St) :=
  bd0 (fX2_isWidthGoal a1 a2 a3) fun r6 =>
  if r6 = (0 : Int32) then (
  some ((-1002 : Int32), σ))
  else (
  lt1 (gI σ 3) fun x10 =>
  bd2 (fX2_carryOutUntil N σ a1 a2 a3) fun r14 σ13 =>
  lt1 (sI σ13 3 x10) fun σ15 =>
  some (r14, σ15))
theorem ctX2_roundsTo {l : Launch} {ad : Nat → Nat} {ca : Nat → ClassId} {N : Nat} {σ : St} {a1 : Int32} {a2 : Int32} {a3 : Int32} {rf : Int32} {σf : St} (h : fX2_roundsTo N σ a1 a2 a3 = some (rf, σf)) : Cw l yX2_roundsTo cX2_roundsTo 6 (some .int) rmX2_roundsTo [.ref (ad 0), .int a1, .int a2, .int a3] (wX ad ca) (tyX ca) σ (some (.int rf)) σf := by
  refine Cw_of (by decide) (sameX ad ca) (Nat.le_of_ble_eq_true rfl) ?_
  intro p e s m args below meth c D A C X hr
  replace C : Cb p s m args meth c RX2 cX2_roundsTo 6 := C
  have h4 := h; clear h
  refine b_sub (lv' := [(0, .ref (ad 0)), (1, .int a1), (2, .int a2), (3, .int a3)]) [0, 1, 2, 3] rfl ?_
  refine b_iload_n C 1 dX2_roundsTo_0 rfl rfl ?_
  refine b_iload_n C 2 dX2_roundsTo_1 rfl rfl ?_
  refine b_iload_n C 3 dX2_roundsTo_2 rfl rfl ?_
  obtain ⟨r6, ec5, h5⟩ := bd0_inv h4; clear h4
  refine b_callSi (rest := []) C dX2_roundsTo_3 (ctX2_isWidthGoal ec5) mf_X2_isWidthGoal ms_X2_isWidthGoal kl_X2_118 rfl ⟨rfl, rfl⟩ ⟨Nat.le_of_ble_eq_true rfl, Nat.le_of_ble_eq_true rfl⟩ ⟨Nat.zero_le _, Nat.zero_le _⟩ rfl (Nat.le_of_ble_eq_true rfl) ?_
  refine b_if_ne (tgt := 13) C dX2_roundsTo_6 (by decide) (fun c7 => ?_) (fun c7 => ?_)
  · have h8 := ineg h5 c7; clear h5
    refine b_aload_n C 0 dX2_roundsTo_13 rfl rfl ?_
    refine gX2_72 C X dX2_roundsTo_14 ?_
    obtain ⟨x10, ex10, h11⟩ := lt1_inv h8; clear h8
    refine b_nmI ex10 ?_
    refine b_istore (lv' := [(4, .int x10), (0, .ref (ad 0)), (1, .int a1), (2, .int a2), (3, .int a3)]) C dX2_roundsTo_17 (by decide) rfl ?_
    refine b_aload_n C 1 dX2_roundsTo_19 rfl rfl ?_
    refine b_iload_n C 2 dX2_roundsTo_20 rfl rfl ?_
    refine b_iload_n C 3 dX2_roundsTo_21 rfl rfl ?_
    refine b_iload_n C 4 dX2_roundsTo_22 rfl rfl ?_
    obtain ⟨r14, σ13, ec12, h12⟩ := bd2_inv h11; clear h11
    refine b_callWi (rest := []) C (sameX ad ca) X dX2_roundsTo_23 (ctX2_carryOutUntil ec12) mf_X2_carryOutUntil mi_X2_carryOutUntil kl_X2_121 0 rfl rfl rfl rfl ⟨rfl, rfl⟩ ⟨Nat.le_of_ble_eq_true rfl, Nat.le_of_ble_eq_true rfl⟩ ⟨Nat.zero_le _, Nat.zero_le _⟩ rfl (Nat.le_of_ble_eq_true rfl) ?_
    refine b_istore (lv' := [(5, .int r14), (4, .int x10), (0, .ref (ad 0)), (1, .int a1), (2, .int a2), (3, .int a3)]) C dX2_roundsTo_26 (by decide) rfl ?_
    refine b_aload_n C 2 dX2_roundsTo_28 rfl rfl ?_
    refine b_iload C 1 dX2_roundsTo_29 rfl ?_
    refine pX2_72 C X dX2_roundsTo_31 ?_
    obtain ⟨σ15, eσ15, h16⟩ := lt1_inv h12; clear h12
    refine b_nmS eσ15 ?_
    refine b_iload C 0 dX2_roundsTo_34 rfl ?_
    obtain ⟨rfl, rfl⟩ := so2 h16
    exact b_iret C dX2_roundsTo_36 hr
  have h9 := ipos h5 c7; clear h5
  refine b_sipush (v := (-1002 : Int32)) C dX2_roundsTo_9 (by decide) ?_
  obtain ⟨rfl, rfl⟩ := so2 h9
  exact b_iret C dX2_roundsTo_12 hr
def rmX2_run : Room := { frames := 5, cells := 0, slots := 0, locals := 129 }
def fX2_run (N : Nat) (σ : St) (a1 : Int32) : Option (Int32 × St) :=
  bd0 (fX2_isWithin a1 (1 : Int32) (60 : Int32)) fun r4 =>
  if r4 = (0 : Int32) then (
  some ((-1002 : Int32), σ))
  else (
  if ((gI σ 3) + a1) ≤ (60 : Int32) then (
  bd0 (fX2_carryOut N σ a1) fun σ12 =>
  some ((gI σ12 3), σ12))
  else (
  some ((-1004 : Int32), σ)))
theorem ctX2_run {l : Launch} {ad : Nat → Nat} {ca : Nat → ClassId} {N : Nat} {σ : St} {a1 : Int32} {rf : Int32} {σf : St} (h : fX2_run N σ a1 = some (rf, σf)) : Cw l yX2_run cX2_run 2 (some .int) rmX2_run [.ref (ad 0), .int a1] (wX ad ca) (tyX ca) σ (some (.int rf)) σf := by
  refine Cw_of (by decide) (sameX ad ca) (Nat.le_of_ble_eq_true rfl) ?_
  intro p e s m args below meth c D A C X hr
  replace C : Cb p s m args meth c RX2 cX2_run 2 := C
  have h2 := h; clear h
  refine b_sub (lv' := [(0, .ref (ad 0)), (1, .int a1)]) [0, 1] rfl ?_
  refine b_iload_n C 1 dX2_run_0 rfl rfl ?_
  refine b_iconst (v := (1 : Int32)) C dX2_run_1 (by decide) ?_
  refine b_bipush (v := (60 : Int32)) C dX2_run_2 (by decide) ?_
  obtain ⟨r4, ec3, h3⟩ := bd0_inv h2; clear h2
  refine b_callSi (rest := []) C dX2_run_4 (ctX2_isWithin ec3) mf_X2_isWithin ms_X2_isWithin kl_X2_49 rfl ⟨rfl, rfl⟩ ⟨Nat.le_of_ble_eq_true rfl, Nat.le_of_ble_eq_true rfl⟩ ⟨Nat.zero_le _, Nat.zero_le _⟩ rfl (Nat.le_of_ble_eq_true rfl) ?_
  refine b_if_ne (tgt := 14) C dX2_run_7 (by decide) (fun c5 => ?_) (fun c5 => ?_)
  · have h6 := ineg h3 c5; clear h3
    refine b_aload_n C 0 dX2_run_14 rfl rfl ?_
    refine gX2_72 C X dX2_run_15 ?_
    refine b_iload_n C 1 dX2_run_18 rfl rfl ?_
    refine b_iadd C dX2_run_19 ?_
    refine b_bipush (v := (60 : Int32)) C dX2_run_20 (by decide) ?_
    refine b_icmp_le (tgt := 29) C dX2_run_22 (by decide) (fun c8 => ?_) (fun c8 => ?_)
    · have h9 := ipos h6 c8; clear h6
      refine b_aload_n C 0 dX2_run_29 rfl rfl ?_
      refine b_iload_n C 1 dX2_run_30 rfl rfl ?_
      obtain ⟨σ12, ec11, h11⟩ := bd0_inv h9; clear h9
      refine b_callWv (rest := []) C (sameX ad ca) X dX2_run_31 (ctX2_carryOut ec11) mf_X2_carryOut mi_X2_carryOut kl_X2_114 0 rfl rfl rfl rfl ⟨rfl, rfl⟩ ⟨Nat.le_of_ble_eq_true rfl, Nat.le_of_ble_eq_true rfl⟩ ⟨Nat.zero_le _, Nat.zero_le _⟩ rfl (Nat.le_of_ble_eq_true rfl) ?_
      refine b_aload_n C 0 dX2_run_34 rfl rfl ?_
      refine gX2_72 C X dX2_run_35 ?_
      obtain ⟨rfl, rfl⟩ := so2 h11
      exact b_iret C dX2_run_38 hr
    have h10 := ineg h6 c8; clear h6
    refine b_sipush (v := (-1004 : Int32)) C dX2_run_25 (by decide) ?_
    obtain ⟨rfl, rfl⟩ := so2 h10
    exact b_iret C dX2_run_28 hr
  have h7 := ipos h3 c5; clear h3
  refine b_sipush (v := (-1002 : Int32)) C dX2_run_10 (by decide) ?_
  obtain ⟨rfl, rfl⟩ := so2 h7
  exact b_iret C dX2_run_13 hr
def rmX2_runTo : Room := { frames := 6, cells := 0, slots := 0, locals := 153 }
def fX2_runTo (N : Nat) (σ : St) (a1 : Int32) (a2 : Int32) (a3 : Int32) : Option (Int32 × St) :=
  bd0 (fX2_isWidthGoal a1 a2 a3) fun r6 =>
  if r6 = (0 : Int32) then (
  some ((-1002 : Int32), σ))
  else (
  lt1 (gI σ 3) fun x10 =>
  bd2 (fX2_carryOutUntil N σ a1 a2 a3) fun r14 σ13 =>
  if r14 = (-1005 : Int32) then (
  lt1 (sI σ13 3 x10) fun σ18 =>
  some (r14, σ18))
  else (
  some (r14, σ13)))
theorem ctX2_runTo {l : Launch} {ad : Nat → Nat} {ca : Nat → ClassId} {N : Nat} {σ : St} {a1 : Int32} {a2 : Int32} {a3 : Int32} {rf : Int32} {σf : St} (h : fX2_runTo N σ a1 a2 a3 = some (rf, σf)) : Cw l yX2_runTo cX2_runTo 6 (some .int) rmX2_runTo [.ref (ad 0), .int a1, .int a2, .int a3] (wX ad ca) (tyX ca) σ (some (.int rf)) σf := by
  refine Cw_of (by decide) (sameX ad ca) (Nat.le_of_ble_eq_true rfl) ?_
  intro p e s m args below meth c D A C X hr
  replace C : Cb p s m args meth c RX2 cX2_runTo 6 := C
  have h4 := h; clear h
  refine b_sub (lv' := [(0, .ref (ad 0)), (1, .int a1), (2, .int a2), (3, .int a3)]) [0, 1, 2, 3] rfl ?_
  refine b_iload_n C 1 dX2_runTo_0 rfl rfl ?_
  refine b_iload_n C 2 dX2_runTo_1 rfl rfl ?_
  refine b_iload_n C 3 dX2_runTo_2 rfl rfl ?_
  obtain ⟨r6, ec5, h5⟩ := bd0_inv h4; clear h4
  refine b_callSi (rest := []) C dX2_runTo_3 (ctX2_isWidthGoal ec5) mf_X2_isWidthGoal ms_X2_isWidthGoal kl_X2_118 rfl ⟨rfl, rfl⟩ ⟨Nat.le_of_ble_eq_true rfl, Nat.le_of_ble_eq_true rfl⟩ ⟨Nat.zero_le _, Nat.zero_le _⟩ rfl (Nat.le_of_ble_eq_true rfl) ?_
  refine b_if_ne (tgt := 13) C dX2_runTo_6 (by decide) (fun c7 => ?_) (fun c7 => ?_)
  · have h8 := ineg h5 c7; clear h5
    refine b_aload_n C 0 dX2_runTo_13 rfl rfl ?_
    refine gX2_72 C X dX2_runTo_14 ?_
    obtain ⟨x10, ex10, h11⟩ := lt1_inv h8; clear h8
    refine b_nmI ex10 ?_
    refine b_istore (lv' := [(4, .int x10), (0, .ref (ad 0)), (1, .int a1), (2, .int a2), (3, .int a3)]) C dX2_runTo_17 (by decide) rfl ?_
    refine b_aload_n C 1 dX2_runTo_19 rfl rfl ?_
    refine b_iload_n C 2 dX2_runTo_20 rfl rfl ?_
    refine b_iload_n C 3 dX2_runTo_21 rfl rfl ?_
    refine b_iload_n C 4 dX2_runTo_22 rfl rfl ?_
    obtain ⟨r14, σ13, ec12, h12⟩ := bd2_inv h11; clear h11
    refine b_callWi (rest := []) C (sameX ad ca) X dX2_runTo_23 (ctX2_carryOutUntil ec12) mf_X2_carryOutUntil mi_X2_carryOutUntil kl_X2_121 0 rfl rfl rfl rfl ⟨rfl, rfl⟩ ⟨Nat.le_of_ble_eq_true rfl, Nat.le_of_ble_eq_true rfl⟩ ⟨Nat.zero_le _, Nat.zero_le _⟩ rfl (Nat.le_of_ble_eq_true rfl) ?_
    refine b_istore (lv' := [(5, .int r14), (4, .int x10), (0, .ref (ad 0)), (1, .int a1), (2, .int a2), (3, .int a3)]) C dX2_runTo_26 (by decide) rfl ?_
    refine b_iload C 0 dX2_runTo_28 rfl ?_
    refine b_sipush (v := (-1005 : Int32)) C dX2_runTo_30 (by decide) ?_
    refine b_icmp_ne (tgt := 42) C dX2_runTo_33 (by decide) (fun c15 => ?_) (fun c15 => ?_)
    · have h16 := ineg h12 c15; clear h12
      refine b_iload C 0 dX2_runTo_42 rfl ?_
      obtain ⟨rfl, rfl⟩ := so2 h16
      exact b_iret C dX2_runTo_44 hr
    have h17 := ipos h12 c15; clear h12
    refine b_aload_n C 2 dX2_runTo_36 rfl rfl ?_
    refine b_iload C 1 dX2_runTo_37 rfl ?_
    refine pX2_72 C X dX2_runTo_39 ?_
    obtain ⟨σ18, eσ18, h19⟩ := lt1_inv h17; clear h17
    refine b_nmS eσ18 ?_
    refine b_iload C 0 dX2_runTo_42 rfl ?_
    obtain ⟨rfl, rfl⟩ := so2 h19
    exact b_iret C dX2_runTo_44 hr
  have h9 := ipos h5 c7; clear h5
  refine b_sipush (v := (-1002 : Int32)) C dX2_runTo_9 (by decide) ?_
  obtain ⟨rfl, rfl⟩ := so2 h9
  exact b_iret C dX2_runTo_12 hr
def rmX2_setRule : Room := { frames := 1, cells := 0, slots := 0, locals := 22 }
def fX2_setRule (σ : St) (a1 : Int32) : Option (Int32 × St) :=
  bd0 (fX2_isWithin a1 (0 : Int32) (3 : Int32)) fun r4 =>
  if r4 = (0 : Int32) then (
  some ((-1002 : Int32), σ))
  else (
  lt1 (gI σ 4) fun x8 =>
  lt1 (sI σ 4 a1) fun σ10 =>
  some (x8, σ10))
theorem ctX2_setRule {l : Launch} {ad : Nat → Nat} {ca : Nat → ClassId} {σ : St} {a1 : Int32} {rf : Int32} {σf : St} (h : fX2_setRule σ a1 = some (rf, σf)) : Cw l yX2_setRule cX2_setRule 3 (some .int) rmX2_setRule [.ref (ad 0), .int a1] (wX ad ca) (tyX ca) σ (some (.int rf)) σf := by
  refine Cw_of (by decide) (sameX ad ca) (Nat.le_of_ble_eq_true rfl) ?_
  intro p e s m args below meth c D A C X hr
  replace C : Cb p s m args meth c RX2 cX2_setRule 3 := C
  have h2 := h; clear h
  refine b_sub (lv' := [(0, .ref (ad 0)), (1, .int a1)]) [0, 1] rfl ?_
  refine b_iload_n C 1 dX2_setRule_0 rfl rfl ?_
  refine b_iconst (v := (0 : Int32)) C dX2_setRule_1 (by decide) ?_
  refine b_iconst (v := (3 : Int32)) C dX2_setRule_2 (by decide) ?_
  obtain ⟨r4, ec3, h3⟩ := bd0_inv h2; clear h2
  refine b_callSi (rest := []) C dX2_setRule_3 (ctX2_isWithin ec3) mf_X2_isWithin ms_X2_isWithin kl_X2_49 rfl ⟨rfl, rfl⟩ ⟨Nat.le_of_ble_eq_true rfl, Nat.le_of_ble_eq_true rfl⟩ ⟨Nat.zero_le _, Nat.zero_le _⟩ rfl (Nat.le_of_ble_eq_true rfl) ?_
  refine b_if_ne (tgt := 13) C dX2_setRule_6 (by decide) (fun c5 => ?_) (fun c5 => ?_)
  · have h6 := ineg h3 c5; clear h3
    refine b_aload_n C 0 dX2_setRule_13 rfl rfl ?_
    refine gX2_98 C X dX2_setRule_14 ?_
    obtain ⟨x8, ex8, h9⟩ := lt1_inv h6; clear h6
    refine b_nmI ex8 ?_
    refine b_istore_n (lv' := [(2, .int x8), (0, .ref (ad 0)), (1, .int a1)]) C dX2_setRule_17 rfl (by decide) rfl ?_
    refine b_aload_n C 1 dX2_setRule_18 rfl rfl ?_
    refine b_iload_n C 2 dX2_setRule_19 rfl rfl ?_
    refine pX2_98 C X dX2_setRule_20 ?_
    obtain ⟨σ10, eσ10, h11⟩ := lt1_inv h9; clear h9
    refine b_nmS eσ10 ?_
    refine b_iload_n C 0 dX2_setRule_23 rfl rfl ?_
    obtain ⟨rfl, rfl⟩ := so2 h11
    exact b_iret C dX2_setRule_24 hr
  have h7 := ipos h3 c5; clear h3
  refine b_sipush (v := (-1002 : Int32)) C dX2_setRule_9 (by decide) ?_
  obtain ⟨rfl, rfl⟩ := so2 h7
  exact b_iret C dX2_setRule_12 hr
def rmX2_strategy : Room := { frames := 1, cells := 0, slots := 0, locals := 21 }
def fX2_strategy (σ : St) (a1 : Int32) : Option (Int32 × St) :=
  bd2 (fX2_isNode σ a1) fun r5 σ4 =>
  if r5 = (0 : Int32) then (
  some ((-1001 : Int32), σ4))
  else (
  if (a1 < 0 ∨ 10 ≤ (a1).toNatClampNeg) then none else
  some ((gF σ4 2 (a1).toNatClampNeg), σ4))
theorem ctX2_strategy {l : Launch} {ad : Nat → Nat} {ca : Nat → ClassId} {σ : St} {a1 : Int32} {rf : Int32} {σf : St} (h : fX2_strategy σ a1 = some (rf, σf)) : Cw l yX2_strategy cX2_strategy 2 (some .int) rmX2_strategy [.ref (ad 0), .int a1] (wX ad ca) (tyX ca) σ (some (.int rf)) σf := by
  refine Cw_of (by decide) (sameX ad ca) (Nat.le_of_ble_eq_true rfl) ?_
  intro p e s m args below meth c D A C X hr
  replace C : Cb p s m args meth c RX2 cX2_strategy 2 := C
  have h2 := h; clear h
  refine b_sub (lv' := [(0, .ref (ad 0)), (1, .int a1)]) [0, 1] rfl ?_
  refine b_aload_n C 0 dX2_strategy_0 rfl rfl ?_
  refine b_iload_n C 1 dX2_strategy_1 rfl rfl ?_
  obtain ⟨r5, σ4, ec3, h3⟩ := bd2_inv h2; clear h2
  refine b_callWi (rest := []) C (sameX ad ca) X dX2_strategy_2 (ctX2_isNode ec3) mf_X2_isNode mi_X2_isNode kl_X2_68 0 rfl rfl rfl rfl ⟨rfl, rfl⟩ ⟨Nat.le_of_ble_eq_true rfl, Nat.le_of_ble_eq_true rfl⟩ ⟨Nat.zero_le _, Nat.zero_le _⟩ rfl (Nat.le_of_ble_eq_true rfl) ?_
  refine b_if_eq (tgt := 17) C dX2_strategy_5 (by decide) (fun c6 => ?_) (fun c6 => ?_)
  · have h7 := ipos h3 c6; clear h3
    refine b_sipush (v := (-1001 : Int32)) C dX2_strategy_17 (by decide) ?_
    obtain ⟨rfl, rfl⟩ := so2 h7
    exact b_iret C dX2_strategy_20 hr
  have h8 := ineg h3 c6; clear h3
  refine b_aload_n C 0 dX2_strategy_8 rfl rfl ?_
  refine gX2_34 C X dX2_strategy_9 ?_
  refine b_iload_n C 1 dX2_strategy_12 rfl rfl ?_
  obtain ⟨g10, h9⟩ := gdn h8; clear h8
  refine lX_10 C X g10 dX2_strategy_13 ?_
  refine b_goto (tgt := 20) C dX2_strategy_14 (by decide) ?_
  obtain ⟨rfl, rfl⟩ := so2 h9
  exact b_iret C dX2_strategy_20 hr
def rmX2_worstStrategy : Room := { frames := 6, cells := 0, slots := 0, locals := 153 }
def fX2_worstStrategy_71b (N : Nat) (q114 : St → Int32 → Int32 → Int32 → Option (Int32 × St)) (q71 : St → Int32 → Int32 → Int32 → Int32 → Int64 → Int32 → Option (Int32 × St)) (σ34 : St) (x28 : Int32) (x29 : Int32) (x30 : Int32) (x31 : Int32) (x32 : Int64) (x33 : Int32) : Option (Int32 × St) :=
  if (5 : Int32) < x33 then (
  q114 σ34 x28 x30 x31)
  else (
  if (x28 < 0 ∨ 10 ≤ (x28).toNatClampNeg) then none else
  lt1 (sF σ34 2 (upd (gF σ34 2) (x28).toNatClampNeg x33)) fun σ41 =>
  bd2 (fX2_widthInFuture N σ41 x29) fun r45 σ44 =>
  if r45 ≤ x32 then (
  lt1 (x33 + (1 : Int32)) fun x49 =>
  q71 σ44 x28 x29 x30 x31 x32 x49)
  else (
  lt1 (x33 + (1 : Int32)) fun x51 =>
  q71 σ44 x28 x29 x30 x33 r45 x51))
def fX2_worstStrategy_71 (N : Nat) (q114 : St → Int32 → Int32 → Int32 → Option (Int32 × St)) : Nat → St → Int32 → Int32 → Int32 → Int32 → Int64 → Int32 → Option (Int32 × St)
  | 0, _, _, _, _, _, _, _ => none
  | n + 1, σ, x28, x29, x30, x31, x32, x33 => fX2_worstStrategy_71b N q114 (fX2_worstStrategy_71 N q114 n) σ x28 x29 x30 x31 x32 x33
def fX2_worstStrategy (N : Nat) (σ : St) (a1 : Int32) (a2 : Int32) : Option (Int32 × St) :=
  bd2 (fX2_isNode σ a1) fun r6 σ5 =>
  if r6 = (0 : Int32) then (
  some ((-1001 : Int32), σ5))
  else (
  bd0 (fX2_isWithin a2 (1 : Int32) (10 : Int32)) fun r11 =>
  if r11 = (0 : Int32) then (
  some ((-1002 : Int32), σ5))
  else (
  bd2 (fX2_isCorrect σ5 a1) fun r17 σ16 =>
  if r17 = (0 : Int32) then (
  if ((gI σ16 3) + a2) ≤ (60 : Int32) then (
  if (a1 < 0 ∨ 10 ≤ (a1).toNatClampNeg) then none else
  lt1 (gF σ16 2 (a1).toNatClampNeg) fun x26 =>
  fX2_worstStrategy_71 N (fun σ56 x53 x54 x55 =>
 if (x53 < 0 ∨ 10 ≤ (x53).toNatClampNeg) then none else
  lt1 (sF σ56 2 (upd (gF σ56 2) (x53).toNatClampNeg x54)) fun σ60 =>
  some (x55, σ60)) N σ16 a1 a2 x26 (1 : Int32) (-1 : Int64) (1 : Int32))
  else (
  some ((-1004 : Int32), σ16)))
  else (
  some ((-1003 : Int32), σ16))))
theorem wX2_worstStrategy_71 {l : Launch} {p : Program} {e : Env} {s : State} {m : MethodId} {args : Array Value} {below : List Frame} {meth : Method} {c : Code} {D : va_G} {A : Nat → Prop} {ad : Nat → Nat} {ca : Nat → ClassId} {rf : Int32} {σf : St} (C : Cb p s m args meth c RX2 cX2_worstStrategy 10) (X : Cx s D A (wX ad ca) (tyX ca)) (hr : meth.sig.returnType = (some .int)) {N : Nat} {q114 : St → Int32 → Int32 → Int32 → Option (Int32 × St)} (hq114 : ∀ (σ : St) (y0 : Int32) (y1 : Int32) (y2 : Int32), q114 σ y0 y1 y2 = some (rf, σf) → bW p l e rmX2_worstStrategy s m args below meth c 0 0 (MQ below (Qw D (wX ad ca) σf (some (.int rf)) A) args s 0 0 A) 10 (wd D A (wX ad ca) s σ) 114 [(0, .ref (ad 0)), (1, .int y0), (3, .int y1), (4, .int y2)] []) : ∀ n : Nat, ∀ (σ : St) (y0 : Int32) (y1 : Int32) (y2 : Int32) (y3 : Int32) (y4 : Int64) (y5 : Int32), fX2_worstStrategy_71 N q114 n σ y0 y1 y2 y3 y4 y5 = some (rf, σf) → bW p l e rmX2_worstStrategy s m args below meth c 0 0 (MQ below (Qw D (wX ad ca) σf (some (.int rf)) A) args s 0 0 A) 10 (wd D A (wX ad ca) s σ) 71 [(0, .ref (ad 0)), (1, .int y0), (2, .int y1), (3, .int y2), (4, .int y3), (5, .long y4), (7, .int y5)] [] := by
  intro n
  induction n with
  | zero => intro σ34 x28 x29 x30 x31 x32 x33 h35; exact nn h35
  | succ n hq71 =>
    intro σ34 x28 x29 x30 x31 x32 x33 h35
    replace h35 : fX2_worstStrategy_71b N q114 (fX2_worstStrategy_71 N q114 n) σ34 x28 x29 x30 x31 x32 x33 = some (rf, σf) := h35
    refine b_iload C 6 dX2_worstStrategy_71 rfl ?_
    refine b_iconst (v := (5 : Int32)) C dX2_worstStrategy_73 (by decide) ?_
    refine b_icmp_gt (tgt := 114) C dX2_worstStrategy_74 (by decide) (fun c36 => ?_) (fun c36 => ?_)
    · have h37 := ipos h35 c36; clear h35
      exact b_sub [0, 1, 3, 4] rfl (hq114 _ _ _ _ h37)
    have h38 := ineg h35 c36; clear h35
    refine b_aload_n C 0 dX2_worstStrategy_77 rfl rfl ?_
    refine gX2_34 C X dX2_worstStrategy_78 ?_
    refine b_iload_n C 1 dX2_worstStrategy_81 rfl rfl ?_
    refine b_iload C 6 dX2_worstStrategy_82 rfl ?_
    obtain ⟨g40, h39⟩ := gdn h38; clear h38
    refine aX_10 C X g40 dX2_worstStrategy_84 ?_
    obtain ⟨σ41, eσ41, h42⟩ := lt1_inv h39; clear h39
    refine b_nmS eσ41 ?_
    refine b_aload_n C 0 dX2_worstStrategy_85 rfl rfl ?_
    refine b_iload_n C 2 dX2_worstStrategy_86 rfl rfl ?_
    obtain ⟨r45, σ44, ec43, h43⟩ := bd2_inv h42; clear h42
    refine b_callWl (rest := []) C (sameX ad ca) X dX2_worstStrategy_87 (ctX2_widthInFuture ec43) mf_X2_widthInFuture mi_X2_widthInFuture kl_X2_174 0 rfl rfl rfl rfl ⟨rfl, rfl⟩ ⟨Nat.le_of_ble_eq_true rfl, Nat.le_of_ble_eq_true rfl⟩ ⟨Nat.zero_le _, Nat.zero_le _⟩ rfl (Nat.le_of_ble_eq_true rfl) ?_
    refine b_lstore (lv' := [(8, .long r45), (0, .ref (ad 0)), (1, .int x28), (2, .int x29), (3, .int x30), (4, .int x31), (5, .long x32), (7, .int x33)]) C dX2_worstStrategy_90 (by decide) rfl ?_
    refine b_lload C 0 dX2_worstStrategy_92 rfl ?_
    refine b_lload C 6 dX2_worstStrategy_94 rfl ?_
    refine b_lc_le (tgt := 108) C dX2_worstStrategy_96 dX2_worstStrategy_97 (by decide) (fun c46 => ?_) (fun c46 => ?_)
    · have h47 := ipos h43 c46; clear h43
      obtain ⟨x49, ex49, h50⟩ := lt1_inv h47; clear h47
      refine b_iinc (v := x49) (lv' := [(7, .int x49), (8, .long r45), (0, .ref (ad 0)), (1, .int x28), (2, .int x29), (3, .int x30), (4, .int x31), (5, .long x32)]) C 7 dX2_worstStrategy_108 rfl (by rw [ex49]; rfl) (by decide) rfl ?_
      refine b_goto (tgt := 71) C dX2_worstStrategy_111 (by decide) ?_
      exact b_sub [2, 3, 4, 5, 6, 7, 0] rfl (hq71 _ _ _ _ _ _ _ h50)
    have h48 := ineg h43 c46; clear h43
    refine b_lload C 0 dX2_worstStrategy_100 rfl ?_
    refine b_lstore (lv' := [(5, .long r45), (8, .long r45), (0, .ref (ad 0)), (1, .int x28), (2, .int x29), (3, .int x30), (4, .int x31), (7, .int x33)]) C dX2_worstStrategy_102 (by decide) rfl ?_
    refine b_iload C 7 dX2_worstStrategy_104 rfl ?_
    refine b_istore (lv' := [(4, .int x33), (5, .long r45), (8, .long r45), (0, .ref (ad 0)), (1, .int x28), (2, .int x29), (3, .int x30), (7, .int x33)]) C dX2_worstStrategy_106 (by decide) rfl ?_
    obtain ⟨x51, ex51, h52⟩ := lt1_inv h48; clear h48
    refine b_iinc (v := x51) (lv' := [(7, .int x51), (4, .int x33), (5, .long r45), (8, .long r45), (0, .ref (ad 0)), (1, .int x28), (2, .int x29), (3, .int x30)]) C 7 dX2_worstStrategy_108 rfl (by rw [ex51]; rfl) (by decide) rfl ?_
    refine b_goto (tgt := 71) C dX2_worstStrategy_111 (by decide) ?_
    exact b_sub [4, 5, 6, 7, 1, 2, 0] rfl (hq71 _ _ _ _ _ _ _ h52)
theorem ctX2_worstStrategy {l : Launch} {ad : Nat → Nat} {ca : Nat → ClassId} {N : Nat} {σ : St} {a1 : Int32} {a2 : Int32} {rf : Int32} {σf : St} (h : fX2_worstStrategy N σ a1 a2 = some (rf, σf)) : Cw l yX2_worstStrategy cX2_worstStrategy 10 (some .int) rmX2_worstStrategy [.ref (ad 0), .int a1, .int a2] (wX ad ca) (tyX ca) σ (some (.int rf)) σf := by
  refine Cw_of (by decide) (sameX ad ca) (Nat.le_of_ble_eq_true rfl) ?_
  intro p e s m args below meth c D A C X hr
  replace C : Cb p s m args meth c RX2 cX2_worstStrategy 10 := C
  have h3 := h; clear h
  refine b_sub (lv' := [(0, .ref (ad 0)), (1, .int a1), (2, .int a2)]) [0, 1, 2] rfl ?_
  refine b_aload_n C 0 dX2_worstStrategy_0 rfl rfl ?_
  refine b_iload_n C 1 dX2_worstStrategy_1 rfl rfl ?_
  obtain ⟨r6, σ5, ec4, h4⟩ := bd2_inv h3; clear h3
  refine b_callWi (rest := []) C (sameX ad ca) X dX2_worstStrategy_2 (ctX2_isNode ec4) mf_X2_isNode mi_X2_isNode kl_X2_68 0 rfl rfl rfl rfl ⟨rfl, rfl⟩ ⟨Nat.le_of_ble_eq_true rfl, Nat.le_of_ble_eq_true rfl⟩ ⟨Nat.zero_le _, Nat.zero_le _⟩ rfl (Nat.le_of_ble_eq_true rfl) ?_
  refine b_if_ne (tgt := 12) C dX2_worstStrategy_5 (by decide) (fun c7 => ?_) (fun c7 => ?_)
  · have h8 := ineg h4 c7; clear h4
    refine b_iload_n C 2 dX2_worstStrategy_12 rfl rfl ?_
    refine b_iconst (v := (1 : Int32)) C dX2_worstStrategy_13 (by decide) ?_
    refine b_bipush (v := (10 : Int32)) C dX2_worstStrategy_14 (by decide) ?_
    obtain ⟨r11, ec10, h10⟩ := bd0_inv h8; clear h8
    refine b_callSi (rest := []) C dX2_worstStrategy_16 (ctX2_isWithin ec10) mf_X2_isWithin ms_X2_isWithin kl_X2_49 rfl ⟨rfl, rfl⟩ ⟨Nat.le_of_ble_eq_true rfl, Nat.le_of_ble_eq_true rfl⟩ ⟨Nat.zero_le _, Nat.zero_le _⟩ rfl (Nat.le_of_ble_eq_true rfl) ?_
    refine b_if_ne (tgt := 26) C dX2_worstStrategy_19 (by decide) (fun c12 => ?_) (fun c12 => ?_)
    · have h13 := ineg h10 c12; clear h10
      refine b_aload_n C 0 dX2_worstStrategy_26 rfl rfl ?_
      refine b_iload_n C 1 dX2_worstStrategy_27 rfl rfl ?_
      obtain ⟨r17, σ16, ec15, h15⟩ := bd2_inv h13; clear h13
      refine b_callWi (rest := []) C (sameX ad ca) X dX2_worstStrategy_28 (ctX2_isCorrect ec15) mf_X2_isCorrect mi_X2_isCorrect kl_X2_125 0 rfl rfl rfl rfl ⟨rfl, rfl⟩ ⟨Nat.le_of_ble_eq_true rfl, Nat.le_of_ble_eq_true rfl⟩ ⟨Nat.zero_le _, Nat.zero_le _⟩ rfl (Nat.le_of_ble_eq_true rfl) ?_
      refine b_if_eq (tgt := 38) C dX2_worstStrategy_31 (by decide) (fun c18 => ?_) (fun c18 => ?_)
      · have h19 := ipos h15 c18; clear h15
        refine b_aload_n C 0 dX2_worstStrategy_38 rfl rfl ?_
        refine gX2_72 C X dX2_worstStrategy_39 ?_
        refine b_iload_n C 2 dX2_worstStrategy_42 rfl rfl ?_
        refine b_iadd C dX2_worstStrategy_43 ?_
        refine b_bipush (v := (60 : Int32)) C dX2_worstStrategy_44 (by decide) ?_
        refine b_icmp_le (tgt := 53) C dX2_worstStrategy_46 (by decide) (fun c21 => ?_) (fun c21 => ?_)
        · have h22 := ipos h19 c21; clear h19
          refine b_aload_n C 0 dX2_worstStrategy_53 rfl rfl ?_
          refine gX2_34 C X dX2_worstStrategy_54 ?_
          refine b_iload_n C 1 dX2_worstStrategy_57 rfl rfl ?_
          obtain ⟨g25, h24⟩ := gdn h22; clear h22
          refine lX_10 C X g25 dX2_worstStrategy_58 ?_
          obtain ⟨x26, ex26, h27⟩ := lt1_inv h24; clear h24
          refine b_nmI ex26 ?_
          refine b_istore_n (lv' := [(3, .int x26), (0, .ref (ad 0)), (1, .int a1), (2, .int a2)]) C dX2_worstStrategy_59 rfl (by decide) rfl ?_
          refine b_iconst (v := (1 : Int32)) C dX2_worstStrategy_60 (by decide) ?_
          refine b_istore (lv' := [(4, .int (1 : Int32)), (3, .int x26), (0, .ref (ad 0)), (1, .int a1), (2, .int a2)]) C dX2_worstStrategy_61 (by decide) rfl ?_
          refine b_ldc2 (v := (-1 : Int64)) C dX2_worstStrategy_63 kc_X2_172 ?_
          refine b_lstore (lv' := [(5, .long (-1 : Int64)), (4, .int (1 : Int32)), (3, .int x26), (0, .ref (ad 0)), (1, .int a1), (2, .int a2)]) C dX2_worstStrategy_66 (by decide) rfl ?_
          refine b_iconst (v := (1 : Int32)) C dX2_worstStrategy_68 (by decide) ?_
          refine b_istore (lv' := [(7, .int (1 : Int32)), (5, .long (-1 : Int64)), (4, .int (1 : Int32)), (3, .int x26), (0, .ref (ad 0)), (1, .int a1), (2, .int a2)]) C dX2_worstStrategy_69 (by decide) rfl ?_
          refine b_sub [4, 5, 6, 3, 2, 1, 0] rfl (wX2_worstStrategy_71 C X hr (fun σ56 x53 x54 x55 h57 => ?_) _ _ _ _ _ _ _ _ h27)
          refine b_aload_n C 0 dX2_worstStrategy_114 rfl rfl ?_
          refine gX2_34 C X dX2_worstStrategy_115 ?_
          refine b_iload_n C 1 dX2_worstStrategy_118 rfl rfl ?_
          refine b_iload_n C 2 dX2_worstStrategy_119 rfl rfl ?_
          obtain ⟨g59, h58⟩ := gdn h57; clear h57
          refine aX_10 C X g59 dX2_worstStrategy_120 ?_
          obtain ⟨σ60, eσ60, h61⟩ := lt1_inv h58; clear h58
          refine b_nmS eσ60 ?_
          refine b_iload C 3 dX2_worstStrategy_121 rfl ?_
          obtain ⟨rfl, rfl⟩ := so2 h61
          exact b_iret C dX2_worstStrategy_123 hr
        have h23 := ineg h19 c21; clear h19
        refine b_sipush (v := (-1004 : Int32)) C dX2_worstStrategy_49 (by decide) ?_
        obtain ⟨rfl, rfl⟩ := so2 h23
        exact b_iret C dX2_worstStrategy_52 hr
      have h20 := ineg h15 c18; clear h15
      refine b_sipush (v := (-1003 : Int32)) C dX2_worstStrategy_34 (by decide) ?_
      obtain ⟨rfl, rfl⟩ := so2 h20
      exact b_iret C dX2_worstStrategy_37 hr
    have h14 := ipos h10 c12; clear h10
    refine b_sipush (v := (-1002 : Int32)) C dX2_worstStrategy_22 (by decide) ?_
    obtain ⟨rfl, rfl⟩ := so2 h14
    exact b_iret C dX2_worstStrategy_25 hr
  have h9 := ipos h4 c7; clear h4
  refine b_sipush (v := (-1001 : Int32)) C dX2_worstStrategy_8 (by decide) ?_
  obtain ⟨rfl, rfl⟩ := so2 h9
  exact b_iret C dX2_worstStrategy_11 hr
def rmX1_empty : Room := { frames := 0, cells := 0, slots := 0, locals := 0 }
def fX1_empty (σ : St) : Option (Int32 × St) :=
  lt1 (gI σ 5) fun x2 =>
  lt1 (sI σ 5 (0 : Int32)) fun σ4 =>
  some (x2, σ4)
theorem ctX1_empty {l : Launch} {ad : Nat → Nat} {ca : Nat → ClassId} {σ : St} {rf : Int32} {σf : St} (h : fX1_empty σ = some (rf, σf)) : Cw l yX1_empty cX1_empty 2 (some .int) rmX1_empty [.ref (ad 1)] (wX ad ca) (tyX ca) σ (some (.int rf)) σf := by
  refine Cw_of (by decide) (sameX ad ca) (Nat.le_of_ble_eq_true rfl) ?_
  intro p e s m args below meth c D A C X hr
  replace C : Cb p s m args meth c RX1 cX1_empty 2 := C
  have h1 := h; clear h
  refine b_sub (lv' := [(0, .ref (ad 1))]) [0] rfl ?_
  refine b_aload_n C 0 dX1_empty_0 rfl rfl ?_
  refine gX1_15 C X dX1_empty_1 ?_
  obtain ⟨x2, ex2, h3⟩ := lt1_inv h1; clear h1
  refine b_nmI ex2 ?_
  refine b_istore_n (lv' := [(1, .int x2), (0, .ref (ad 1))]) C dX1_empty_4 rfl (by decide) rfl ?_
  refine b_aload_n C 1 dX1_empty_5 rfl rfl ?_
  refine b_iconst (v := (0 : Int32)) C dX1_empty_6 (by decide) ?_
  refine pX1_15 C X dX1_empty_7 ?_
  obtain ⟨σ4, eσ4, h5⟩ := lt1_inv h3; clear h3
  refine b_nmS eσ4 ?_
  refine b_iload_n C 0 dX1_empty_10 rfl rfl ?_
  obtain ⟨rfl, rfl⟩ := so2 h5
  exact b_iret C dX1_empty_11 hr
def rmX2_clearText : Room := { frames := 1, cells := 0, slots := 0, locals := 21 }
def fX2_clearText (σ : St) : Option (Int32 × St) :=
  bd2 (fX1_empty σ) fun r4 σ3 =>
  some (r4, σ3)
theorem ctX2_clearText {l : Launch} {ad : Nat → Nat} {ca : Nat → ClassId} {σ : St} {rf : Int32} {σf : St} (h : fX2_clearText σ = some (rf, σf)) : Cw l yX2_clearText cX2_clearText 1 (some .int) rmX2_clearText [.ref (ad 0)] (wX ad ca) (tyX ca) σ (some (.int rf)) σf := by
  refine Cw_of (by decide) (sameX ad ca) (Nat.le_of_ble_eq_true rfl) ?_
  intro p e s m args below meth c D A C X hr
  replace C : Cb p s m args meth c RX2 cX2_clearText 1 := C
  have h1 := h; clear h
  refine b_sub (lv' := [(0, .ref (ad 0))]) [0] rfl ?_
  refine b_aload_n C 0 dX2_clearText_0 rfl rfl ?_
  refine gX2_12 C X dX2_clearText_1 ?_
  obtain ⟨r4, σ3, ec2, h2⟩ := bd2_inv h1; clear h1
  refine b_callWi (rest := []) C (sameX ad ca) X dX2_clearText_4 (ctX1_empty ec2) mf_X1_empty mi_X1_empty kl_X2_65 1 rfl rfl rfl rfl ⟨rfl, rfl⟩ ⟨Nat.le_of_ble_eq_true rfl, Nat.le_of_ble_eq_true rfl⟩ ⟨Nat.zero_le _, Nat.zero_le _⟩ rfl (Nat.le_of_ble_eq_true rfl) ?_
  obtain ⟨rfl, rfl⟩ := so2 h2
  exact b_iret C dX2_clearText_7 hr
def rmX2_input : Room := { frames := 3, cells := 0, slots := 0, locals := 79 }
def fX2_input (N : Nat) (σ : St) (a1 : Int32) (a2 : Int32) (a3 : Int32) : Option (Int64 × St) :=
  bd2 (fX2_isNode σ a1) fun r7 σ6 =>
  if r7 = (0 : Int32) then (
  some ((-9223372036854775808 : Int64), σ6))
  else (
  bd2 (fX0_end σ6 3 (0 : Int32) a1 a2) fun r13 σ12 =>
  bd2 (fX2_asFraction N σ12 r13 a3) fun r16 σ15 =>
  some (r16, σ15))
theorem ctX2_input {l : Launch} {ad : Nat → Nat} {ca : Nat → ClassId} {N : Nat} {σ : St} {a1 : Int32} {a2 : Int32} {a3 : Int32} {rf : Int64} {σf : St} (h : fX2_input N σ a1 a2 a3 = some (rf, σf)) : Cw l yX2_input cX2_input 4 (some .long) rmX2_input [.ref (ad 0), .int a1, .int a2, .int a3] (wX ad ca) (tyX ca) σ (some (.long rf)) σf := by
  refine Cw_of (by decide) (sameX ad ca) (Nat.le_of_ble_eq_true rfl) ?_
  intro p e s m args below meth c D A C X hr
  replace C : Cb p s m args meth c RX2 cX2_input 4 := C
  have h4 := h; clear h
  refine b_sub (lv' := [(0, .ref (ad 0)), (1, .int a1), (2, .int a2), (3, .int a3)]) [0, 1, 2, 3] rfl ?_
  refine b_aload_n C 0 dX2_input_0 rfl rfl ?_
  refine b_iload_n C 1 dX2_input_1 rfl rfl ?_
  obtain ⟨r7, σ6, ec5, h5⟩ := bd2_inv h4; clear h4
  refine b_callWi (rest := []) C (sameX ad ca) X dX2_input_2 (ctX2_isNode ec5) mf_X2_isNode mi_X2_isNode kl_X2_68 0 rfl rfl rfl rfl ⟨rfl, rfl⟩ ⟨Nat.le_of_ble_eq_true rfl, Nat.le_of_ble_eq_true rfl⟩ ⟨Nat.zero_le _, Nat.zero_le _⟩ rfl (Nat.le_of_ble_eq_true rfl) ?_
  refine b_if_ne (tgt := 12) C dX2_input_5 (by decide) (fun c8 => ?_) (fun c8 => ?_)
  · have h9 := ineg h5 c8; clear h5
    refine b_aload_n C 0 dX2_input_12 rfl rfl ?_
    refine b_aload_n C 0 dX2_input_13 rfl rfl ?_
    refine gX2_23 C X dX2_input_14 ?_
    refine b_iconst (v := (0 : Int32)) C dX2_input_17 (by decide) ?_
    refine b_iload_n C 1 dX2_input_18 rfl rfl ?_
    refine b_iload_n C 2 dX2_input_19 rfl rfl ?_
    obtain ⟨r13, σ12, ec11, h11⟩ := bd2_inv h9; clear h9
    refine b_callWl (rest := [.ref (ad 0)]) C (sameX ad ca) X dX2_input_20 (ctX0_end ec11) mf_X0_end mi_X0_end kl_X2_130 3 rfl rfl rfl rfl ⟨rfl, rfl⟩ ⟨Nat.le_of_ble_eq_true rfl, Nat.le_of_ble_eq_true rfl⟩ ⟨Nat.zero_le _, Nat.zero_le _⟩ rfl (Nat.le_of_ble_eq_true rfl) ?_
    refine b_iload_n C 3 dX2_input_23 rfl rfl ?_
    obtain ⟨r16, σ15, ec14, h14⟩ := bd2_inv h11; clear h11
    refine b_callWl (rest := []) C (sameX ad ca) X dX2_input_24 (ctX2_asFraction ec14) mf_X2_asFraction mi_X2_asFraction kl_X2_134 0 rfl rfl rfl rfl ⟨rfl, rfl⟩ ⟨Nat.le_of_ble_eq_true rfl, Nat.le_of_ble_eq_true rfl⟩ ⟨Nat.zero_le _, Nat.zero_le _⟩ rfl (Nat.le_of_ble_eq_true rfl) ?_
    obtain ⟨rfl, rfl⟩ := so2 h14
    exact b_lret C dX2_input_27 hr
  have h10 := ipos h5 c8; clear h5
  refine b_ldc2 (v := (-9223372036854775808 : Int64)) C dX2_input_8 kc_X2_128 ?_
  obtain ⟨rfl, rfl⟩ := so2 h10
  exact b_lret C dX2_input_11 hr
def rmX1_characterNext : Room := { frames := 0, cells := 0, slots := 0, locals := 0 }
def fX1_characterNext (σ : St) : Option (Int32 × St) :=
  if (gI σ 6) < (0 : Int32) then (
  if ¬ (vp_nar .char (0 : Int32) = (0 : Int32)) then none else
  some ((0 : Int32), σ))
  else (
  if (gI σ 5) ≤ (gI σ 6) then (
  if ¬ (vp_nar .char (0 : Int32) = (0 : Int32)) then none else
  some ((0 : Int32), σ))
  else (
  if (40 : Int32) ≤ (gI σ 6) then (
  if ¬ (vp_nar .char (0 : Int32) = (0 : Int32)) then none else
  some ((0 : Int32), σ))
  else (
  if ((gI σ 6) < 0 ∨ 40 ≤ ((gI σ 6)).toNatClampNeg) then none else
  lt1 (gF σ 0 ((gI σ 6)).toNatClampNeg) fun x19 =>
  if ¬ (vp_nar .char x19 = x19) then none else
  some (x19, σ))))
theorem ctX1_characterNext {l : Launch} {ad : Nat → Nat} {ca : Nat → ClassId} {σ : St} {rf : Int32} {σf : St} (h : fX1_characterNext σ = some (rf, σf)) : Cw l yX1_characterNext cX1_characterNext 2 (some .char) rmX1_characterNext [.ref (ad 1)] (wX ad ca) (tyX ca) σ (some (.int rf)) σf := by
  refine Cw_of (by decide) (sameX ad ca) (Nat.le_of_ble_eq_true rfl) ?_
  intro p e s m args below meth c D A C X hr
  replace C : Cb p s m args meth c RX1 cX1_characterNext 2 := C
  have h1 := h; clear h
  refine b_sub (lv' := [(0, .ref (ad 1))]) [0] rfl ?_
  refine b_aload_n C 0 dX1_characterNext_0 rfl rfl ?_
  refine gX1_26 C X dX1_characterNext_1 ?_
  refine b_if_lt (tgt := 34) C dX1_characterNext_4 (by decide) (fun c2 => ?_) (fun c2 => ?_)
  · have h3 := ipos h1 c2; clear h1
    refine b_iconst (v := (0 : Int32)) C dX1_characterNext_34 (by decide) ?_
    refine b_istore_n (lv' := [(1, .int (0 : Int32)), (0, .ref (ad 1))]) C dX1_characterNext_35 rfl (by decide) rfl ?_
    refine b_iload_n C 0 dX1_characterNext_36 rfl rfl ?_
    refine b_if_eq (tgt := 52) C dX1_characterNext_37 (by decide) (fun _ => ?_) (fun hc => absurd hc (by decide))
    refine b_iconst (v := (0 : Int32)) C dX1_characterNext_52 (by decide) ?_
    obtain ⟨g6, h5⟩ := gdn h3; clear h3
    obtain ⟨rfl, rfl⟩ := so2 h5
    exact b_zret C dX1_characterNext_53 hr (cn (Classical.not_not.mp g6))
  have h4 := ineg h1 c2; clear h1
  refine b_aload_n C 0 dX1_characterNext_7 rfl rfl ?_
  refine gX1_26 C X dX1_characterNext_8 ?_
  refine b_aload_n C 0 dX1_characterNext_11 rfl rfl ?_
  refine gX1_15 C X dX1_characterNext_12 ?_
  refine b_icmp_ge (tgt := 34) C dX1_characterNext_15 (by decide) (fun c7 => ?_) (fun c7 => ?_)
  · have h8 := ipos h4 c7; clear h4
    refine b_iconst (v := (0 : Int32)) C dX1_characterNext_34 (by decide) ?_
    refine b_istore_n (lv' := [(1, .int (0 : Int32)), (0, .ref (ad 1))]) C dX1_characterNext_35 rfl (by decide) rfl ?_
    refine b_iload_n C 0 dX1_characterNext_36 rfl rfl ?_
    refine b_if_eq (tgt := 52) C dX1_characterNext_37 (by decide) (fun _ => ?_) (fun hc => absurd hc (by decide))
    refine b_iconst (v := (0 : Int32)) C dX1_characterNext_52 (by decide) ?_
    obtain ⟨g11, h10⟩ := gdn h8; clear h8
    obtain ⟨rfl, rfl⟩ := so2 h10
    exact b_zret C dX1_characterNext_53 hr (cn (Classical.not_not.mp g11))
  have h9 := ineg h4 c7; clear h4
  refine b_aload_n C 0 dX1_characterNext_18 rfl rfl ?_
  refine gX1_26 C X dX1_characterNext_19 ?_
  refine b_aload_n C 0 dX1_characterNext_22 rfl rfl ?_
  refine gX1_9 C X dX1_characterNext_23 ?_
  refine nX_2 C X dX1_characterNext_26 ?_
  refine b_icmp_ge (tgt := 34) C dX1_characterNext_27 (by decide) (fun c12 => ?_) (fun c12 => ?_)
  · have h13 := ipos h9 c12; clear h9
    refine b_iconst (v := (0 : Int32)) C dX1_characterNext_34 (by decide) ?_
    refine b_istore_n (lv' := [(1, .int (0 : Int32)), (0, .ref (ad 1))]) C dX1_characterNext_35 rfl (by decide) rfl ?_
    refine b_iload_n C 0 dX1_characterNext_36 rfl rfl ?_
    refine b_if_eq (tgt := 52) C dX1_characterNext_37 (by decide) (fun _ => ?_) (fun hc => absurd hc (by decide))
    refine b_iconst (v := (0 : Int32)) C dX1_characterNext_52 (by decide) ?_
    obtain ⟨g16, h15⟩ := gdn h13; clear h13
    obtain ⟨rfl, rfl⟩ := so2 h15
    exact b_zret C dX1_characterNext_53 hr (cn (Classical.not_not.mp g16))
  have h14 := ineg h9 c12; clear h9
  refine b_iconst (v := (1 : Int32)) C dX1_characterNext_30 (by decide) ?_
  refine b_goto (tgt := 35) C dX1_characterNext_31 (by decide) ?_
  refine b_istore_n (lv' := [(1, .int (1 : Int32)), (0, .ref (ad 1))]) C dX1_characterNext_35 rfl (by decide) rfl ?_
  refine b_iload_n C 0 dX1_characterNext_36 rfl rfl ?_
  refine b_if_eq (tgt := 52) C dX1_characterNext_37 (by decide) (fun hc => absurd hc (by decide)) (fun _ => ?_)
  refine b_aload_n C 1 dX1_characterNext_40 rfl rfl ?_
  refine gX1_9 C X dX1_characterNext_41 ?_
  refine b_aload_n C 1 dX1_characterNext_44 rfl rfl ?_
  refine gX1_26 C X dX1_characterNext_45 ?_
  obtain ⟨g18, h17⟩ := gdn h14; clear h14
  refine lX_2 C X g18 dX1_characterNext_48 ?_
  refine b_goto (tgt := 53) C dX1_characterNext_49 (by decide) ?_
  obtain ⟨x19, ex19, h20⟩ := lt1_inv h17; clear h17
  refine b_nmI ex19 ?_
  obtain ⟨g22, h21⟩ := gdn h20; clear h20
  obtain ⟨rfl, rfl⟩ := so2 h21
  exact b_zret C dX1_characterNext_53 hr (cn (Classical.not_not.mp g22))
def rmX1_isDigit : Room := { frames := 0, cells := 0, slots := 0, locals := 0 }
def fX1_isDigit (a1 : Int32) : Option Int32 :=
  if a1 < (48 : Int32) then (
  some (0 : Int32))
  else (
  if (57 : Int32) < a1 then (
  some (0 : Int32))
  else (
  some (1 : Int32)))
theorem ctX1_isDigit {l : Launch} {a1 : Int32} {rf : Int32} (h : fX1_isDigit a1 = some rf) : Cs l yX1_isDigit cX1_isDigit 1 (some .boolean) rmX1_isDigit [.int a1] (some (.int rf)) := by
  refine Cs_of (by decide +kernel) (Nat.le_of_ble_eq_true rfl) ?_
  intro p e s m args below meth c C hr
  replace C : Cb p s m args meth c RX1 cX1_isDigit 1 := C
  have h2 := h; clear h
  refine b_sub (lv' := [(0, .int a1)]) [0] rfl ?_
  refine b_iload_n C 0 dX1_isDigit_0 rfl rfl ?_
  refine b_bipush (v := (48 : Int32)) C dX1_isDigit_1 (by decide) ?_
  refine b_icmp_lt (tgt := 16) C dX1_isDigit_3 (by decide) (fun c3 => ?_) (fun c3 => ?_)
  · have h4 := ipos h2 c3; clear h2
    refine b_iconst (v := (0 : Int32)) C dX1_isDigit_16 (by decide) ?_
    obtain rfl := so1 h4
    exact s_zret C dX1_isDigit_17 hr rfl
  have h5 := ineg h2 c3; clear h2
  refine b_iload_n C 0 dX1_isDigit_6 rfl rfl ?_
  refine b_bipush (v := (57 : Int32)) C dX1_isDigit_7 (by decide) ?_
  refine b_icmp_gt (tgt := 16) C dX1_isDigit_9 (by decide) (fun c6 => ?_) (fun c6 => ?_)
  · have h7 := ipos h5 c6; clear h5
    refine b_iconst (v := (0 : Int32)) C dX1_isDigit_16 (by decide) ?_
    obtain rfl := so1 h7
    exact s_zret C dX1_isDigit_17 hr rfl
  have h8 := ineg h5 c6; clear h5
  refine b_iconst (v := (1 : Int32)) C dX1_isDigit_12 (by decide) ?_
  refine b_goto (tgt := 17) C dX1_isDigit_13 (by decide) ?_
  obtain rfl := so1 h8
  exact s_zret C dX1_isDigit_17 hr rfl
def rmX1_parseDigits : Room := { frames := 1, cells := 0, slots := 0, locals := 21 }
def fX1_parseDigits_4b (N : Nat) (q51 : St → Int64 → Int32 → Option (Int64 × St)) (q4 : St → Int64 → Int32 → Option (Int64 × St)) (σ4 : St) (x2 : Int64) (x3 : Int32) : Option (Int64 × St) :=
  if (6 : Int32) ≤ x3 then (
  q51 σ4 x2 x3)
  else (
  bd2 (fX1_characterNext σ4) fun r11 σ10 =>
  bd0 (fX1_isDigit r11) fun r13 =>
  if r13 = (0 : Int32) then (
  q51 σ10 x2 x3)
  else (
  bd2 (fX1_characterNext σ10) fun r19 σ18 =>
  lt1 ((x2 * (10 : Int64)) + ((r19 - (48 : Int32)).toInt64)) fun x20 =>
  lt1 (x3 + (1 : Int32)) fun x22 =>
  lt1 (sI σ18 6 ((gI σ18 6) + (1 : Int32))) fun σ24 =>
  q4 σ24 x20 x22))
def fX1_parseDigits_4 (N : Nat) (q51 : St → Int64 → Int32 → Option (Int64 × St)) : Nat → St → Int64 → Int32 → Option (Int64 × St)
  | 0, _, _, _ => none
  | n + 1, σ, x2, x3 => fX1_parseDigits_4b N q51 (fX1_parseDigits_4 N q51 n) σ x2 x3
def fX1_parseDigits (N : Nat) (σ : St) : Option (Int64 × St) :=
  fX1_parseDigits_4 N (fun σ28 x26 x27 =>
 if x27 = (0 : Int32) then (
  some ((-1 : Int64), σ28))
  else (
  bd2 (fX1_characterNext σ28) fun r35 σ34 =>
  bd0 (fX1_isDigit r35) fun r37 =>
  if r37 = (0 : Int32) then (
  some (x26, σ34))
  else (
  some ((-1 : Int64), σ34)))) N σ (0 : Int64) (0 : Int32)
theorem wX1_parseDigits_4 {l : Launch} {p : Program} {e : Env} {s : State} {m : MethodId} {args : Array Value} {below : List Frame} {meth : Method} {c : Code} {D : va_G} {A : Nat → Prop} {ad : Nat → Nat} {ca : Nat → ClassId} {rf : Int64} {σf : St} (C : Cb p s m args meth c RX1 cX1_parseDigits 4) (X : Cx s D A (wX ad ca) (tyX ca)) (hr : meth.sig.returnType = (some .long)) {N : Nat} {q51 : St → Int64 → Int32 → Option (Int64 × St)} (hq51 : ∀ (σ : St) (y0 : Int64) (y1 : Int32), q51 σ y0 y1 = some (rf, σf) → bW p l e rmX1_parseDigits s m args below meth c 0 0 (MQ below (Qw D (wX ad ca) σf (some (.long rf)) A) args s 0 0 A) 4 (wd D A (wX ad ca) s σ) 51 [(0, .ref (ad 1)), (1, .long y0), (3, .int y1)] []) : ∀ n : Nat, ∀ (σ : St) (y0 : Int64) (y1 : Int32), fX1_parseDigits_4 N q51 n σ y0 y1 = some (rf, σf) → bW p l e rmX1_parseDigits s m args below meth c 0 0 (MQ below (Qw D (wX ad ca) σf (some (.long rf)) A) args s 0 0 A) 4 (wd D A (wX ad ca) s σ) 4 [(0, .ref (ad 1)), (1, .long y0), (3, .int y1)] [] := by
  intro n
  induction n with
  | zero => intro σ4 x2 x3 h5; exact nn h5
  | succ n hq4 =>
    intro σ4 x2 x3 h5
    replace h5 : fX1_parseDigits_4b N q51 (fX1_parseDigits_4 N q51 n) σ4 x2 x3 = some (rf, σf) := h5
    refine b_iload_n C 2 dX1_parseDigits_4 rfl rfl ?_
    refine b_bipush (v := (6 : Int32)) C dX1_parseDigits_5 (by decide) ?_
    refine b_icmp_ge (tgt := 51) C dX1_parseDigits_7 (by decide) (fun c6 => ?_) (fun c6 => ?_)
    · have h7 := ipos h5 c6; clear h5
      exact b_sub [0, 1, 2] rfl (hq51 _ _ _ h7)
    have h8 := ineg h5 c6; clear h5
    refine b_aload_n C 0 dX1_parseDigits_10 rfl rfl ?_
    obtain ⟨r11, σ10, ec9, h9⟩ := bd2_inv h8; clear h8
    refine b_callWi (rest := []) C (sameX ad ca) X dX1_parseDigits_11 (ctX1_characterNext ec9) mf_X1_characterNext mi_X1_characterNext kl_X1_56 1 rfl rfl rfl rfl ⟨rfl, rfl⟩ ⟨Nat.le_of_ble_eq_true rfl, Nat.le_of_ble_eq_true rfl⟩ ⟨Nat.zero_le _, Nat.zero_le _⟩ rfl (Nat.le_of_ble_eq_true rfl) ?_
    obtain ⟨r13, ec12, h12⟩ := bd0_inv h9; clear h9
    refine b_callSi (rest := []) C dX1_parseDigits_14 (ctX1_isDigit ec12) mf_X1_isDigit ms_X1_isDigit kl_X1_60 rfl ⟨rfl, rfl⟩ ⟨Nat.le_of_ble_eq_true rfl, Nat.le_of_ble_eq_true rfl⟩ ⟨Nat.zero_le _, Nat.zero_le _⟩ rfl (Nat.le_of_ble_eq_true rfl) ?_
    refine b_if_eq (tgt := 51) C dX1_parseDigits_17 (by decide) (fun c14 => ?_) (fun c14 => ?_)
    · have h15 := ipos h12 c14; clear h12
      exact b_sub [0, 1, 2] rfl (hq51 _ _ _ h15)
    have h16 := ineg h12 c14; clear h12
    refine b_lload_n C 1 dX1_parseDigits_20 rfl rfl ?_
    refine b_ldc2 (v := (10 : Int64)) C dX1_parseDigits_21 kc_X1_63 ?_
    refine b_lmul C dX1_parseDigits_24 ?_
    refine b_aload_n C 0 dX1_parseDigits_25 rfl rfl ?_
    obtain ⟨r19, σ18, ec17, h17⟩ := bd2_inv h16; clear h16
    refine b_callWi (rest := [.long (x2 * (10 : Int64))]) C (sameX ad ca) X dX1_parseDigits_26 (ctX1_characterNext ec17) mf_X1_characterNext mi_X1_characterNext kl_X1_56 1 rfl rfl rfl rfl ⟨rfl, rfl⟩ ⟨Nat.le_of_ble_eq_true rfl, Nat.le_of_ble_eq_true rfl⟩ ⟨Nat.zero_le _, Nat.zero_le _⟩ rfl (Nat.le_of_ble_eq_true rfl) ?_
    refine b_bipush (v := (48 : Int32)) C dX1_parseDigits_29 (by decide) ?_
    refine b_isub C dX1_parseDigits_31 ?_
    refine b_i2l C dX1_parseDigits_32 ?_
    refine b_ladd C dX1_parseDigits_33 ?_
    obtain ⟨x20, ex20, h21⟩ := lt1_inv h17; clear h17
    refine b_nmJ ex20 ?_
    refine b_lstore_n (lv' := [(1, .long x20), (0, .ref (ad 1)), (3, .int x3)]) C dX1_parseDigits_34 rfl (by decide) rfl ?_
    obtain ⟨x22, ex22, h23⟩ := lt1_inv h21; clear h21
    refine b_iinc (v := x22) (lv' := [(3, .int x22), (1, .long x20), (0, .ref (ad 1))]) C 2 dX1_parseDigits_35 rfl (by rw [ex22]; rfl) (by decide) rfl ?_
    refine b_aload_n C 2 dX1_parseDigits_38 rfl rfl ?_
    refine b_dup C dX1_parseDigits_39 rfl ?_
    refine gX1_26 C X dX1_parseDigits_40 ?_
    refine b_iconst (v := (1 : Int32)) C dX1_parseDigits_43 (by decide) ?_
    refine b_iadd C dX1_parseDigits_44 ?_
    refine pX1_26 C X dX1_parseDigits_45 ?_
    obtain ⟨σ24, eσ24, h25⟩ := lt1_inv h23; clear h23
    refine b_nmS eσ24 ?_
    refine b_goto (tgt := 4) C dX1_parseDigits_48 (by decide) ?_
    exact b_sub [2, 1, 0] rfl (hq4 _ _ _ h25)
theorem ctX1_parseDigits {l : Launch} {ad : Nat → Nat} {ca : Nat → ClassId} {N : Nat} {σ : St} {rf : Int64} {σf : St} (h : fX1_parseDigits N σ = some (rf, σf)) : Cw l yX1_parseDigits cX1_parseDigits 4 (some .long) rmX1_parseDigits [.ref (ad 1)] (wX ad ca) (tyX ca) σ (some (.long rf)) σf := by
  refine Cw_of (by decide) (sameX ad ca) (Nat.le_of_ble_eq_true rfl) ?_
  intro p e s m args below meth c D A C X hr
  replace C : Cb p s m args meth c RX1 cX1_parseDigits 4 := C
  have h1 := h; clear h
  refine b_sub (lv' := [(0, .ref (ad 1))]) [0] rfl ?_
  refine b_lconst (v := (0 : Int64)) C dX1_parseDigits_0 (by decide) ?_
  refine b_lstore_n (lv' := [(1, .long (0 : Int64)), (0, .ref (ad 1))]) C dX1_parseDigits_1 rfl (by decide) rfl ?_
  refine b_iconst (v := (0 : Int32)) C dX1_parseDigits_2 (by decide) ?_
  refine b_istore_n (lv' := [(3, .int (0 : Int32)), (1, .long (0 : Int64)), (0, .ref (ad 1))]) C dX1_parseDigits_3 rfl (by decide) rfl ?_
  refine b_sub [2, 1, 0] rfl (wX1_parseDigits_4 C X hr (fun σ28 x26 x27 h29 => ?_) _ _ _ _ h1)
  refine b_iload_n C 2 dX1_parseDigits_51 rfl rfl ?_
  refine b_if_eq (tgt := 65) C dX1_parseDigits_52 (by decide) (fun c30 => ?_) (fun c30 => ?_)
  · have h31 := ipos h29 c30; clear h29
    refine b_ldc2 (v := (-1 : Int64)) C dX1_parseDigits_65 kc_X1_44 ?_
    refine b_goto (tgt := 72) C dX1_parseDigits_68 (by decide) ?_
    obtain ⟨rfl, rfl⟩ := so2 h31
    exact b_lret C dX1_parseDigits_72 hr
  have h32 := ineg h29 c30; clear h29
  refine b_aload_n C 0 dX1_parseDigits_55 rfl rfl ?_
  obtain ⟨r35, σ34, ec33, h33⟩ := bd2_inv h32; clear h32
  refine b_callWi (rest := []) C (sameX ad ca) X dX1_parseDigits_56 (ctX1_characterNext ec33) mf_X1_characterNext mi_X1_characterNext kl_X1_56 1 rfl rfl rfl rfl ⟨rfl, rfl⟩ ⟨Nat.le_of_ble_eq_true rfl, Nat.le_of_ble_eq_true rfl⟩ ⟨Nat.zero_le _, Nat.zero_le _⟩ rfl (Nat.le_of_ble_eq_true rfl) ?_
  obtain ⟨r37, ec36, h36⟩ := bd0_inv h33; clear h33
  refine b_callSi (rest := []) C dX1_parseDigits_59 (ctX1_isDigit ec36) mf_X1_isDigit ms_X1_isDigit kl_X1_60 rfl ⟨rfl, rfl⟩ ⟨Nat.le_of_ble_eq_true rfl, Nat.le_of_ble_eq_true rfl⟩ ⟨Nat.zero_le _, Nat.zero_le _⟩ rfl (Nat.le_of_ble_eq_true rfl) ?_
  refine b_if_eq (tgt := 71) C dX1_parseDigits_62 (by decide) (fun c38 => ?_) (fun c38 => ?_)
  · have h39 := ipos h36 c38; clear h36
    refine b_lload_n C 1 dX1_parseDigits_71 rfl rfl ?_
    obtain ⟨rfl, rfl⟩ := so2 h39
    exact b_lret C dX1_parseDigits_72 hr
  have h40 := ineg h36 c38; clear h36
  refine b_ldc2 (v := (-1 : Int64)) C dX1_parseDigits_65 kc_X1_44 ?_
  refine b_goto (tgt := 72) C dX1_parseDigits_68 (by decide) ?_
  obtain ⟨rfl, rfl⟩ := so2 h40
  exact b_lret C dX1_parseDigits_72 hr
def rmX1_skip : Room := { frames := 1, cells := 0, slots := 0, locals := 21 }
def fX1_skip (σ : St) (a1 : Int32) : Option (Int32 × St) :=
  bd2 (fX1_characterNext σ) fun r5 σ4 =>
  if r5 = a1 then (
  lt1 (sI σ4 6 ((gI σ4 6) + (1 : Int32))) fun σ9 =>
  some ((1 : Int32), σ9))
  else (
  some ((0 : Int32), σ4))
theorem ctX1_skip {l : Launch} {ad : Nat → Nat} {ca : Nat → ClassId} {σ : St} {a1 : Int32} {rf : Int32} {σf : St} (h : fX1_skip σ a1 = some (rf, σf)) : Cw l yX1_skip cX1_skip 2 (some .boolean) rmX1_skip [.ref (ad 1), .int a1] (wX ad ca) (tyX ca) σ (some (.int rf)) σf := by
  refine Cw_of (by decide) (sameX ad ca) (Nat.le_of_ble_eq_true rfl) ?_
  intro p e s m args below meth c D A C X hr
  replace C : Cb p s m args meth c RX1 cX1_skip 2 := C
  have h2 := h; clear h
  refine b_sub (lv' := [(0, .ref (ad 1)), (1, .int a1)]) [0, 1] rfl ?_
  refine b_aload_n C 0 dX1_skip_0 rfl rfl ?_
  obtain ⟨r5, σ4, ec3, h3⟩ := bd2_inv h2; clear h2
  refine b_callWi (rest := []) C (sameX ad ca) X dX1_skip_1 (ctX1_characterNext ec3) mf_X1_characterNext mi_X1_characterNext kl_X1_56 1 rfl rfl rfl rfl ⟨rfl, rfl⟩ ⟨Nat.le_of_ble_eq_true rfl, Nat.le_of_ble_eq_true rfl⟩ ⟨Nat.zero_le _, Nat.zero_le _⟩ rfl (Nat.le_of_ble_eq_true rfl) ?_
  refine b_iload_n C 1 dX1_skip_4 rfl rfl ?_
  refine b_icmp_eq (tgt := 10) C dX1_skip_5 (by decide) (fun c6 => ?_) (fun c6 => ?_)
  · have h7 := ipos h3 c6; clear h3
    refine b_aload_n C 0 dX1_skip_10 rfl rfl ?_
    refine b_dup C dX1_skip_11 rfl ?_
    refine gX1_26 C X dX1_skip_12 ?_
    refine b_iconst (v := (1 : Int32)) C dX1_skip_15 (by decide) ?_
    refine b_iadd C dX1_skip_16 ?_
    refine pX1_26 C X dX1_skip_17 ?_
    obtain ⟨σ9, eσ9, h10⟩ := lt1_inv h7; clear h7
    refine b_nmS eσ9 ?_
    refine b_iconst (v := (1 : Int32)) C dX1_skip_20 (by decide) ?_
    obtain ⟨rfl, rfl⟩ := so2 h10
    exact b_zret C dX1_skip_21 hr rfl
  have h8 := ineg h3 c6; clear h3
  refine b_iconst (v := (0 : Int32)) C dX1_skip_8 (by decide) ?_
  obtain ⟨rfl, rfl⟩ := so2 h8
  exact b_zret C dX1_skip_9 hr rfl
def rmX2_inUnits : Room := { frames := 0, cells := 0, slots := 0, locals := 0 }
def fX2_inUnits (a1 : Int64) (a2 : Int64) (a3 : Int64) : Option Int64 :=
  if a2 ≤ (0 : Int64) then (
  some (0 : Int64))
  else (
  if a2 = (0 : Int64) then none else
  some ((a1 * a3) / a2))
theorem ctX2_inUnits {l : Launch} {a1 : Int64} {a2 : Int64} {a3 : Int64} {rf : Int64} (h : fX2_inUnits a1 a2 a3 = some rf) : Cs l yX2_inUnits cX2_inUnits 6 (some .long) rmX2_inUnits [.long a1, .long a2, .long a3] (some (.long rf)) := by
  refine Cs_of (by decide +kernel) (Nat.le_of_ble_eq_true rfl) ?_
  intro p e s m args below meth c C hr
  replace C : Cb p s m args meth c RX2 cX2_inUnits 6 := C
  have h4 := h; clear h
  refine b_sub (lv' := [(0, .long a1), (2, .long a2), (4, .long a3)]) [0, 1, 2] rfl ?_
  refine b_lload_n C 1 dX2_inUnits_0 rfl rfl ?_
  refine b_lconst (v := (0 : Int64)) C dX2_inUnits_1 (by decide) ?_
  refine b_lc_le (tgt := 15) C dX2_inUnits_2 dX2_inUnits_3 (by decide) (fun c5 => ?_) (fun c5 => ?_)
  · have h6 := ipos h4 c5; clear h4
    refine b_lconst (v := (0 : Int64)) C dX2_inUnits_15 (by decide) ?_
    obtain rfl := so1 h6
    exact s_lret C dX2_inUnits_16 hr
  have h7 := ineg h4 c5; clear h4
  refine b_lload_n C 0 dX2_inUnits_6 rfl rfl ?_
  refine b_lload C 2 dX2_inUnits_7 rfl ?_
  refine b_lmul C dX2_inUnits_9 ?_
  refine b_lload_n C 1 dX2_inUnits_10 rfl rfl ?_
  obtain ⟨g9, h8⟩ := gdn h7; clear h7
  refine b_ldiv C dX2_inUnits_11 g9 ?_
  refine b_goto (tgt := 16) C dX2_inUnits_12 (by decide) ?_
  obtain rfl := so1 h8
  exact s_lret C dX2_inUnits_16 hr
def rmX2_isOnGrid : Room := { frames := 0, cells := 0, slots := 0, locals := 0 }
def fX2_isOnGrid (a1 : Int64) (a2 : Int64) (a3 : Int64) : Option Int32 :=
  if a2 ≤ (0 : Int64) then (
  some (0 : Int32))
  else (
  if a2 = (0 : Int64) then none else
  if ((a1 * a3) - (a1 * a3) / a2 * a2) = (0 : Int64) then (
  some (1 : Int32))
  else (
  some (0 : Int32)))
theorem ctX2_isOnGrid {l : Launch} {a1 : Int64} {a2 : Int64} {a3 : Int64} {rf : Int32} (h : fX2_isOnGrid a1 a2 a3 = some rf) : Cs l yX2_isOnGrid cX2_isOnGrid 6 (some .boolean) rmX2_isOnGrid [.long a1, .long a2, .long a3] (some (.int rf)) := by
  refine Cs_of (by decide +kernel) (Nat.le_of_ble_eq_true rfl) ?_
  intro p e s m args below meth c C hr
  replace C : Cb p s m args meth c RX2 cX2_isOnGrid 6 := C
  have h4 := h; clear h
  refine b_sub (lv' := [(0, .long a1), (2, .long a2), (4, .long a3)]) [0, 1, 2] rfl ?_
  refine b_lload_n C 1 dX2_isOnGrid_0 rfl rfl ?_
  refine b_lconst (v := (0 : Int64)) C dX2_isOnGrid_1 (by decide) ?_
  refine b_lc_le (tgt := 21) C dX2_isOnGrid_2 dX2_isOnGrid_3 (by decide) (fun c5 => ?_) (fun c5 => ?_)
  · have h6 := ipos h4 c5; clear h4
    refine b_iconst (v := (0 : Int32)) C dX2_isOnGrid_21 (by decide) ?_
    obtain rfl := so1 h6
    exact s_zret C dX2_isOnGrid_22 hr rfl
  have h7 := ineg h4 c5; clear h4
  refine b_lload_n C 0 dX2_isOnGrid_6 rfl rfl ?_
  refine b_lload C 2 dX2_isOnGrid_7 rfl ?_
  refine b_lmul C dX2_isOnGrid_9 ?_
  refine b_lload_n C 1 dX2_isOnGrid_10 rfl rfl ?_
  obtain ⟨g9, h8⟩ := gdn h7; clear h7
  refine b_lrem C dX2_isOnGrid_11 g9 ?_
  refine b_lconst (v := (0 : Int64)) C dX2_isOnGrid_12 (by decide) ?_
  refine b_lc_ne (tgt := 21) C dX2_isOnGrid_13 dX2_isOnGrid_14 (by decide) (fun c10 => ?_) (fun c10 => ?_)
  · have h11 := ineg h8 c10; clear h8
    refine b_iconst (v := (0 : Int32)) C dX2_isOnGrid_21 (by decide) ?_
    obtain rfl := so1 h11
    exact s_zret C dX2_isOnGrid_22 hr rfl
  have h12 := ipos h8 c10; clear h8
  refine b_iconst (v := (1 : Int32)) C dX2_isOnGrid_17 (by decide) ?_
  refine b_goto (tgt := 22) C dX2_isOnGrid_18 (by decide) ?_
  obtain rfl := so1 h12
  exact s_zret C dX2_isOnGrid_22 hr rfl
def rmX1_parseNumber : Room := { frames := 2, cells := 0, slots := 0, locals := 44 }
def fX1_parseNumber_64 (N : Nat) (σ25 : St) (x20 : Int32) (x21 : Int32) (x22 : Int32) (x23 : Int64) (x24 : Int64) : Option (Int32 × St) :=
  if ((1000 : Int64) * x24) < x23 then (
  some (x21, σ25))
  else (
  bd0 (fX2_isOnGrid x23 x24 (x20.toInt64)) fun r31 =>
  if r31 = (0 : Int32) then (
  some (x21, σ25))
  else (
  bd0 (fX2_inUnits x23 x24 (x20.toInt64)) fun r36 =>
  if x22 = (0 : Int32) then (
  lt1 (sJ σ25 0 r36) fun σ40 =>
  some ((-1 : Int32), σ40))
  else (
  lt1 (sJ σ25 0 (-r36)) fun σ42 =>
  some ((-1 : Int32), σ42))))
def fX1_parseNumber (N : Nat) (σ : St) (a1 : Int32) : Option (Int32 × St) :=
  lt1 (gI σ 6) fun x3 =>
  bd2 (fX1_skip σ (45 : Int32)) fun r7 σ6 =>
  bd2 (fX1_parseDigits N σ6) fun r10 σ9 =>
  if r10 = (-1 : Int64) then (
  some ((gI σ9 6), σ9))
  else (
  bd2 (fX1_skip σ9 (47 : Int32)) fun r16 σ15 =>
  if r16 = (0 : Int32) then (
  fX1_parseNumber_64 N σ15 a1 x3 r7 r10 (1 : Int64))
  else (
  bd2 (fX1_parseDigits N σ15) fun r46 σ45 =>
  if r46 = (-1 : Int64) then (
  some ((gI σ45 6), σ45))
  else (
  fX1_parseNumber_64 N σ45 a1 x3 r7 r10 r46)))
theorem wX1_parseNumber_64 {l : Launch} {p : Program} {e : Env} {s : State} {m : MethodId} {args : Array Value} {below : List Frame} {meth : Method} {c : Code} {D : va_G} {A : Nat → Prop} {ad : Nat → Nat} {ca : Nat → ClassId} {rf : Int32} {σf : St} (C : Cb p s m args meth c RX1 cX1_parseNumber 10) (X : Cx s D A (wX ad ca) (tyX ca)) (hr : meth.sig.returnType = (some .int)) {N : Nat} : ∀ (σ : St) (y0 : Int32) (y1 : Int32) (y2 : Int32) (y3 : Int64) (y4 : Int64), fX1_parseNumber_64 N σ y0 y1 y2 y3 y4 = some (rf, σf) → bW p l e rmX1_parseNumber s m args below meth c 0 0 (MQ below (Qw D (wX ad ca) σf (some (.int rf)) A) args s 0 0 A) 10 (wd D A (wX ad ca) s σ) 64 [(0, .ref (ad 1)), (1, .int y0), (2, .int y1), (3, .int y2), (4, .long y3), (6, .long y4)] [] := by
  intro σ25 x20 x21 x22 x23 x24 h26
  refine b_lload C 4 dX1_parseNumber_64 rfl ?_
  refine b_ldc2 (v := (1000 : Int64)) C dX1_parseNumber_66 kc_X1_46 ?_
  refine b_lload C 5 dX1_parseNumber_69 rfl ?_
  refine b_lmul C dX1_parseNumber_71 ?_
  refine b_lc_gt (tgt := 88) C dX1_parseNumber_72 dX1_parseNumber_73 (by decide) (fun c27 => ?_) (fun c27 => ?_)
  · have h28 := ipos h26 c27; clear h26
    refine b_iload_n C 2 dX1_parseNumber_88 rfl rfl ?_
    obtain ⟨rfl, rfl⟩ := so2 h28
    exact b_iret C dX1_parseNumber_89 hr
  have h29 := ineg h26 c27; clear h26
  refine b_lload C 4 dX1_parseNumber_76 rfl ?_
  refine b_lload C 5 dX1_parseNumber_78 rfl ?_
  refine b_iload_n C 1 dX1_parseNumber_80 rfl rfl ?_
  refine b_i2l C dX1_parseNumber_81 ?_
  obtain ⟨r31, ec30, h30⟩ := bd0_inv h29; clear h29
  refine b_callSNi (rest := []) C dX1_parseNumber_82 (ctX2_isOnGrid ec30) mf_X2_isOnGrid ms_X2_isOnGrid X.1.2.2.1 rfl ⟨rfl, rfl⟩ ⟨Nat.le_of_ble_eq_true rfl, Nat.le_of_ble_eq_true rfl⟩ ⟨Nat.zero_le _, Nat.zero_le _⟩ rfl (Nat.le_of_ble_eq_true rfl) ?_
  refine b_if_ne (tgt := 90) C dX1_parseNumber_85 (by decide) (fun c32 => ?_) (fun c32 => ?_)
  · have h33 := ineg h30 c32; clear h30
    refine b_lload C 4 dX1_parseNumber_90 rfl ?_
    refine b_lload C 5 dX1_parseNumber_92 rfl ?_
    refine b_iload_n C 1 dX1_parseNumber_94 rfl rfl ?_
    refine b_i2l C dX1_parseNumber_95 ?_
    obtain ⟨r36, ec35, h35⟩ := bd0_inv h33; clear h33
    refine b_callSNl (rest := []) C dX1_parseNumber_96 (ctX2_inUnits ec35) mf_X2_inUnits ms_X2_inUnits X.1.2.2.2 rfl ⟨rfl, rfl⟩ ⟨Nat.le_of_ble_eq_true rfl, Nat.le_of_ble_eq_true rfl⟩ ⟨Nat.zero_le _, Nat.zero_le _⟩ rfl (Nat.le_of_ble_eq_true rfl) ?_
    refine b_lstore (lv' := [(8, .long r36), (0, .ref (ad 1)), (1, .int x20), (2, .int x21), (3, .int x22), (4, .long x23), (6, .long x24)]) C dX1_parseNumber_99 (by decide) rfl ?_
    refine b_aload_n C 1 dX1_parseNumber_101 rfl rfl ?_
    refine b_iload_n C 4 dX1_parseNumber_102 rfl rfl ?_
    refine b_if_eq (tgt := 112) C dX1_parseNumber_103 (by decide) (fun c37 => ?_) (fun c37 => ?_)
    · have h38 := ipos h35 c37; clear h35
      refine b_lload C 0 dX1_parseNumber_112 rfl ?_
      refine pX1_33 C X dX1_parseNumber_114 ?_
      obtain ⟨σ40, eσ40, h41⟩ := lt1_inv h38; clear h38
      refine b_nmS eσ40 ?_
      refine b_iconst (v := (-1 : Int32)) C dX1_parseNumber_117 (by decide) ?_
      obtain ⟨rfl, rfl⟩ := so2 h41
      exact b_iret C dX1_parseNumber_118 hr
    have h39 := ineg h35 c37; clear h35
    refine b_lload C 0 dX1_parseNumber_106 rfl ?_
    refine b_lneg C dX1_parseNumber_108 ?_
    refine b_goto (tgt := 114) C dX1_parseNumber_109 (by decide) ?_
    refine pX1_33 C X dX1_parseNumber_114 ?_
    obtain ⟨σ42, eσ42, h43⟩ := lt1_inv h39; clear h39
    refine b_nmS eσ42 ?_
    refine b_iconst (v := (-1 : Int32)) C dX1_parseNumber_117 (by decide) ?_
    obtain ⟨rfl, rfl⟩ := so2 h43
    exact b_iret C dX1_parseNumber_118 hr
  have h34 := ipos h30 c32; clear h30
  refine b_iload_n C 2 dX1_parseNumber_88 rfl rfl ?_
  obtain ⟨rfl, rfl⟩ := so2 h34
  exact b_iret C dX1_parseNumber_89 hr
theorem ctX1_parseNumber {l : Launch} {ad : Nat → Nat} {ca : Nat → ClassId} {N : Nat} {σ : St} {a1 : Int32} {rf : Int32} {σf : St} (h : fX1_parseNumber N σ a1 = some (rf, σf)) : Cw l yX1_parseNumber cX1_parseNumber 10 (some .int) rmX1_parseNumber [.ref (ad 1), .int a1] (wX ad ca) (tyX ca) σ (some (.int rf)) σf := by
  refine Cw_of (by decide) (sameX ad ca) (Nat.le_of_ble_eq_true rfl) ?_
  intro p e s m args below meth c D A C X hr
  replace C : Cb p s m args meth c RX1 cX1_parseNumber 10 := C
  have h2 := h; clear h
  refine b_sub (lv' := [(0, .ref (ad 1)), (1, .int a1)]) [0, 1] rfl ?_
  refine b_aload_n C 0 dX1_parseNumber_0 rfl rfl ?_
  refine gX1_26 C X dX1_parseNumber_1 ?_
  obtain ⟨x3, ex3, h4⟩ := lt1_inv h2; clear h2
  refine b_nmI ex3 ?_
  refine b_istore_n (lv' := [(2, .int x3), (0, .ref (ad 1)), (1, .int a1)]) C dX1_parseNumber_4 rfl (by decide) rfl ?_
  refine b_aload_n C 1 dX1_parseNumber_5 rfl rfl ?_
  refine b_bipush (v := (45 : Int32)) C dX1_parseNumber_6 (by decide) ?_
  obtain ⟨r7, σ6, ec5, h5⟩ := bd2_inv h4; clear h4
  refine b_callWi (rest := []) C (sameX ad ca) X dX1_parseNumber_8 (ctX1_skip ec5) mf_X1_skip mi_X1_skip kl_X1_36 1 rfl rfl rfl rfl ⟨rfl, rfl⟩ ⟨Nat.le_of_ble_eq_true rfl, Nat.le_of_ble_eq_true rfl⟩ ⟨Nat.zero_le _, Nat.zero_le _⟩ rfl (Nat.le_of_ble_eq_true rfl) ?_
  refine b_istore_n (lv' := [(3, .int r7), (2, .int x3), (0, .ref (ad 1)), (1, .int a1)]) C dX1_parseNumber_11 rfl (by decide) rfl ?_
  refine b_aload_n C 2 dX1_parseNumber_12 rfl rfl ?_
  obtain ⟨r10, σ9, ec8, h8⟩ := bd2_inv h5; clear h5
  refine b_callWl (rest := []) C (sameX ad ca) X dX1_parseNumber_13 (ctX1_parseDigits ec8) mf_X1_parseDigits mi_X1_parseDigits kl_X1_40 1 rfl rfl rfl rfl ⟨rfl, rfl⟩ ⟨Nat.le_of_ble_eq_true rfl, Nat.le_of_ble_eq_true rfl⟩ ⟨Nat.zero_le _, Nat.zero_le _⟩ rfl (Nat.le_of_ble_eq_true rfl) ?_
  refine b_lstore (lv' := [(4, .long r10), (3, .int r7), (2, .int x3), (0, .ref (ad 1)), (1, .int a1)]) C dX1_parseNumber_16 (by decide) rfl ?_
  refine b_lload C 0 dX1_parseNumber_18 rfl ?_
  refine b_ldc2 (v := (-1 : Int64)) C dX1_parseNumber_20 kc_X1_44 ?_
  refine b_lc_ne (tgt := 32) C dX1_parseNumber_23 dX1_parseNumber_24 (by decide) (fun c11 => ?_) (fun c11 => ?_)
  · have h12 := ineg h8 c11; clear h8
    refine b_lconst (v := (1 : Int64)) C dX1_parseNumber_32 (by decide) ?_
    refine b_lstore (lv' := [(6, .long (1 : Int64)), (4, .long r10), (3, .int r7), (2, .int x3), (0, .ref (ad 1)), (1, .int a1)]) C dX1_parseNumber_33 (by decide) rfl ?_
    refine b_aload_n C 4 dX1_parseNumber_35 rfl rfl ?_
    refine b_bipush (v := (47 : Int32)) C dX1_parseNumber_36 (by decide) ?_
    obtain ⟨r16, σ15, ec14, h14⟩ := bd2_inv h12; clear h12
    refine b_callWi (rest := []) C (sameX ad ca) X dX1_parseNumber_38 (ctX1_skip ec14) mf_X1_skip mi_X1_skip kl_X1_36 1 rfl rfl rfl rfl ⟨rfl, rfl⟩ ⟨Nat.le_of_ble_eq_true rfl, Nat.le_of_ble_eq_true rfl⟩ ⟨Nat.zero_le _, Nat.zero_le _⟩ rfl (Nat.le_of_ble_eq_true rfl) ?_
    refine b_if_eq (tgt := 64) C dX1_parseNumber_41 (by decide) (fun c17 => ?_) (fun c17 => ?_)
    · have h18 := ipos h14 c17; clear h14
      exact b_sub [4, 5, 3, 2, 1, 0] rfl (wX1_parseNumber_64 C X hr _ _ _ _ _ _ h18)
    have h19 := ineg h14 c17; clear h14
    refine b_aload_n C 4 dX1_parseNumber_44 rfl rfl ?_
    obtain ⟨r46, σ45, ec44, h44⟩ := bd2_inv h19; clear h19
    refine b_callWl (rest := []) C (sameX ad ca) X dX1_parseNumber_45 (ctX1_parseDigits ec44) mf_X1_parseDigits mi_X1_parseDigits kl_X1_40 1 rfl rfl rfl rfl ⟨rfl, rfl⟩ ⟨Nat.le_of_ble_eq_true rfl, Nat.le_of_ble_eq_true rfl⟩ ⟨Nat.zero_le _, Nat.zero_le _⟩ rfl (Nat.le_of_ble_eq_true rfl) ?_
    refine b_lstore (lv' := [(6, .long r46), (4, .long r10), (3, .int r7), (2, .int x3), (0, .ref (ad 1)), (1, .int a1)]) C dX1_parseNumber_48 (by decide) rfl ?_
    refine b_lload C 0 dX1_parseNumber_50 rfl ?_
    refine b_ldc2 (v := (-1 : Int64)) C dX1_parseNumber_52 kc_X1_44 ?_
    refine b_lc_ne (tgt := 64) C dX1_parseNumber_55 dX1_parseNumber_56 (by decide) (fun c47 => ?_) (fun c47 => ?_)
    · have h48 := ineg h44 c47; clear h44
      exact b_sub [4, 5, 3, 2, 1, 0] rfl (wX1_parseNumber_64 C X hr _ _ _ _ _ _ h48)
    have h49 := ipos h44 c47; clear h44
    refine b_aload_n C 4 dX1_parseNumber_59 rfl rfl ?_
    refine gX1_26 C X dX1_parseNumber_60 ?_
    obtain ⟨rfl, rfl⟩ := so2 h49
    exact b_iret C dX1_parseNumber_63 hr
  have h13 := ipos h8 c11; clear h8
  refine b_aload_n C 3 dX1_parseNumber_27 rfl rfl ?_
  refine gX1_26 C X dX1_parseNumber_28 ?_
  obtain ⟨rfl, rfl⟩ := so2 h13
  exact b_iret C dX1_parseNumber_31 hr
def rmX1_parse : Room := { frames := 3, cells := 0, slots := 0, locals := 73 }
def fX1_parse (N : Nat) (σ : St) (a1 : Int32) : Option (Int32 × St) :=
  lt1 (sI σ 6 (0 : Int32)) fun σ3 =>
  bd2 (fX1_parseNumber N σ3 a1) fun r7 σ6 =>
  if r7 = (-1 : Int32) then (
  lt1 (sJ σ6 1 (gJ σ6 0)) fun σ11 =>
  lt1 (sJ σ11 2 (gJ σ11 0)) fun σ13 =>
  if (gI σ13 6) = (gI σ13 5) then (
  some ((-1 : Int32), σ13))
  else (
  bd2 (fX1_skip σ13 (46 : Int32)) fun r20 σ19 =>
  if r20 = (0 : Int32) then (
  some ((gI σ19 6), σ19))
  else (
  bd2 (fX1_skip σ19 (46 : Int32)) fun r26 σ25 =>
  if r26 = (0 : Int32) then (
  some ((gI σ25 6), σ25))
  else (
  lt1 (gI σ25 6) fun x30 =>
  bd2 (fX1_parseNumber N σ25 a1) fun r34 σ33 =>
  if r34 = (-1 : Int32) then (
  if (gJ σ33 1) ≤ (gJ σ33 0) then (
  lt1 (sJ σ33 2 (gJ σ33 0)) fun σ41 =>
  if (gI σ41 6) = (gI σ41 5) then (
  some ((-1 : Int32), σ41))
  else (
  some ((gI σ41 6), σ41)))
  else (
  some (x30, σ33)))
  else (
  some (r34, σ33))))))
  else (
  some (r7, σ6))
theorem ctX1_parse {l : Launch} {ad : Nat → Nat} {ca : Nat → ClassId} {N : Nat} {σ : St} {a1 : Int32} {rf : Int32} {σf : St} (h : fX1_parse N σ a1 = some (rf, σf)) : Cw l yX1_parse cX1_parse 4 (some .int) rmX1_parse [.ref (ad 1), .int a1] (wX ad ca) (tyX ca) σ (some (.int rf)) σf := by
  refine Cw_of (by decide) (sameX ad ca) (Nat.le_of_ble_eq_true rfl) ?_
  intro p e s m args below meth c D A C X hr
  replace C : Cb p s m args meth c RX1 cX1_parse 4 := C
  have h2 := h; clear h
  refine b_sub (lv' := [(0, .ref (ad 1)), (1, .int a1)]) [0, 1] rfl ?_
  refine b_aload_n C 0 dX1_parse_0 rfl rfl ?_
  refine b_iconst (v := (0 : Int32)) C dX1_parse_1 (by decide) ?_
  refine pX1_26 C X dX1_parse_2 ?_
  obtain ⟨σ3, eσ3, h4⟩ := lt1_inv h2; clear h2
  refine b_nmS eσ3 ?_
  refine b_aload_n C 0 dX1_parse_5 rfl rfl ?_
  refine b_iload_n C 1 dX1_parse_6 rfl rfl ?_
  obtain ⟨r7, σ6, ec5, h5⟩ := bd2_inv h4; clear h4
  refine b_callWi (rest := []) C (sameX ad ca) X dX1_parse_7 (ctX1_parseNumber ec5) mf_X1_parseNumber mi_X1_parseNumber kl_X1_29 1 rfl rfl rfl rfl ⟨rfl, rfl⟩ ⟨Nat.le_of_ble_eq_true rfl, Nat.le_of_ble_eq_true rfl⟩ ⟨Nat.zero_le _, Nat.zero_le _⟩ rfl (Nat.le_of_ble_eq_true rfl) ?_
  refine b_istore_n (lv' := [(2, .int r7), (0, .ref (ad 1)), (1, .int a1)]) C dX1_parse_10 rfl (by decide) rfl ?_
  refine b_iload_n C 0 dX1_parse_11 rfl rfl ?_
  refine b_iconst (v := (-1 : Int32)) C dX1_parse_12 (by decide) ?_
  refine b_icmp_eq (tgt := 18) C dX1_parse_13 (by decide) (fun c8 => ?_) (fun c8 => ?_)
  · have h9 := ipos h5 c8; clear h5
    refine b_aload_n C 1 dX1_parse_18 rfl rfl ?_
    refine b_aload_n C 1 dX1_parse_19 rfl rfl ?_
    refine gX1_33 C X dX1_parse_20 ?_
    refine pX1_19 C X dX1_parse_23 ?_
    obtain ⟨σ11, eσ11, h12⟩ := lt1_inv h9; clear h9
    refine b_nmS eσ11 ?_
    refine b_aload_n C 1 dX1_parse_26 rfl rfl ?_
    refine b_aload_n C 1 dX1_parse_27 rfl rfl ?_
    refine gX1_33 C X dX1_parse_28 ?_
    refine pX1_23 C X dX1_parse_31 ?_
    obtain ⟨σ13, eσ13, h14⟩ := lt1_inv h12; clear h12
    refine b_nmS eσ13 ?_
    refine b_aload_n C 1 dX1_parse_34 rfl rfl ?_
    refine gX1_26 C X dX1_parse_35 ?_
    refine b_aload_n C 1 dX1_parse_38 rfl rfl ?_
    refine gX1_15 C X dX1_parse_39 ?_
    refine b_icmp_ne (tgt := 47) C dX1_parse_42 (by decide) (fun c15 => ?_) (fun c15 => ?_)
    · have h16 := ineg h14 c15; clear h14
      refine b_aload_n C 1 dX1_parse_47 rfl rfl ?_
      refine b_bipush (v := (46 : Int32)) C dX1_parse_48 (by decide) ?_
      obtain ⟨r20, σ19, ec18, h18⟩ := bd2_inv h16; clear h16
      refine b_callWi (rest := []) C (sameX ad ca) X dX1_parse_50 (ctX1_skip ec18) mf_X1_skip mi_X1_skip kl_X1_36 1 rfl rfl rfl rfl ⟨rfl, rfl⟩ ⟨Nat.le_of_ble_eq_true rfl, Nat.le_of_ble_eq_true rfl⟩ ⟨Nat.zero_le _, Nat.zero_le _⟩ rfl (Nat.le_of_ble_eq_true rfl) ?_
      refine b_if_eq (tgt := 65) C dX1_parse_53 (by decide) (fun c21 => ?_) (fun c21 => ?_)
      · have h22 := ipos h18 c21; clear h18
        refine b_aload_n C 1 dX1_parse_65 rfl rfl ?_
        refine gX1_26 C X dX1_parse_66 ?_
        obtain ⟨rfl, rfl⟩ := so2 h22
        exact b_iret C dX1_parse_69 hr
      have h23 := ineg h18 c21; clear h18
      refine b_aload_n C 1 dX1_parse_56 rfl rfl ?_
      refine b_bipush (v := (46 : Int32)) C dX1_parse_57 (by decide) ?_
      obtain ⟨r26, σ25, ec24, h24⟩ := bd2_inv h23; clear h23
      refine b_callWi (rest := []) C (sameX ad ca) X dX1_parse_59 (ctX1_skip ec24) mf_X1_skip mi_X1_skip kl_X1_36 1 rfl rfl rfl rfl ⟨rfl, rfl⟩ ⟨Nat.le_of_ble_eq_true rfl, Nat.le_of_ble_eq_true rfl⟩ ⟨Nat.zero_le _, Nat.zero_le _⟩ rfl (Nat.le_of_ble_eq_true rfl) ?_
      refine b_if_ne (tgt := 70) C dX1_parse_62 (by decide) (fun c27 => ?_) (fun c27 => ?_)
      · have h28 := ineg h24 c27; clear h24
        refine b_aload_n C 1 dX1_parse_70 rfl rfl ?_
        refine gX1_26 C X dX1_parse_71 ?_
        obtain ⟨x30, ex30, h31⟩ := lt1_inv h28; clear h28
        refine b_nmI ex30 ?_
        refine b_istore_n (lv' := [(3, .int x30), (2, .int r7), (0, .ref (ad 1)), (1, .int a1)]) C dX1_parse_74 rfl (by decide) rfl ?_
        refine b_aload_n C 2 dX1_parse_75 rfl rfl ?_
        refine b_iload_n C 3 dX1_parse_76 rfl rfl ?_
        obtain ⟨r34, σ33, ec32, h32⟩ := bd2_inv h31; clear h31
        refine b_callWi (rest := []) C (sameX ad ca) X dX1_parse_77 (ctX1_parseNumber ec32) mf_X1_parseNumber mi_X1_parseNumber kl_X1_29 1 rfl rfl rfl rfl ⟨rfl, rfl⟩ ⟨Nat.le_of_ble_eq_true rfl, Nat.le_of_ble_eq_true rfl⟩ ⟨Nat.zero_le _, Nat.zero_le _⟩ rfl (Nat.le_of_ble_eq_true rfl) ?_
        refine b_istore_n (lv' := [(2, .int r34), (3, .int x30), (0, .ref (ad 1)), (1, .int a1)]) C dX1_parse_80 rfl (by decide) rfl ?_
        refine b_iload_n C 0 dX1_parse_81 rfl rfl ?_
        refine b_iconst (v := (-1 : Int32)) C dX1_parse_82 (by decide) ?_
        refine b_icmp_eq (tgt := 88) C dX1_parse_83 (by decide) (fun c35 => ?_) (fun c35 => ?_)
        · have h36 := ipos h32 c35; clear h32
          refine b_aload_n C 2 dX1_parse_88 rfl rfl ?_
          refine gX1_33 C X dX1_parse_89 ?_
          refine b_aload_n C 2 dX1_parse_92 rfl rfl ?_
          refine gX1_19 C X dX1_parse_93 ?_
          refine b_lc_ge (tgt := 102) C dX1_parse_96 dX1_parse_97 (by decide) (fun c38 => ?_) (fun c38 => ?_)
          · have h39 := ipos h36 c38; clear h36
            refine b_aload_n C 2 dX1_parse_102 rfl rfl ?_
            refine b_aload_n C 2 dX1_parse_103 rfl rfl ?_
            refine gX1_33 C X dX1_parse_104 ?_
            refine pX1_23 C X dX1_parse_107 ?_
            obtain ⟨σ41, eσ41, h42⟩ := lt1_inv h39; clear h39
            refine b_nmS eσ41 ?_
            refine b_aload_n C 2 dX1_parse_110 rfl rfl ?_
            refine gX1_26 C X dX1_parse_111 ?_
            refine b_aload_n C 2 dX1_parse_114 rfl rfl ?_
            refine gX1_15 C X dX1_parse_115 ?_
            refine b_icmp_ne (tgt := 125) C dX1_parse_118 (by decide) (fun c43 => ?_) (fun c43 => ?_)
            · have h44 := ineg h42 c43; clear h42
              refine b_aload_n C 2 dX1_parse_125 rfl rfl ?_
              refine gX1_26 C X dX1_parse_126 ?_
              obtain ⟨rfl, rfl⟩ := so2 h44
              exact b_iret C dX1_parse_129 hr
            have h45 := ipos h42 c43; clear h42
            refine b_iconst (v := (-1 : Int32)) C dX1_parse_121 (by decide) ?_
            refine b_goto (tgt := 129) C dX1_parse_122 (by decide) ?_
            obtain ⟨rfl, rfl⟩ := so2 h45
            exact b_iret C dX1_parse_129 hr
          have h40 := ineg h36 c38; clear h36
          refine b_iload_n C 1 dX1_parse_100 rfl rfl ?_
          obtain ⟨rfl, rfl⟩ := so2 h40
          exact b_iret C dX1_parse_101 hr
        have h37 := ineg h32 c35; clear h32
        refine b_iload_n C 0 dX1_parse_86 rfl rfl ?_
        obtain ⟨rfl, rfl⟩ := so2 h37
        exact b_iret C dX1_parse_87 hr
      have h29 := ipos h24 c27; clear h24
      refine b_aload_n C 1 dX1_parse_65 rfl rfl ?_
      refine gX1_26 C X dX1_parse_66 ?_
      obtain ⟨rfl, rfl⟩ := so2 h29
      exact b_iret C dX1_parse_69 hr
    have h17 := ipos h14 c15; clear h14
    refine b_iconst (v := (-1 : Int32)) C dX1_parse_45 (by decide) ?_
    obtain ⟨rfl, rfl⟩ := so2 h17
    exact b_iret C dX1_parse_46 hr
  have h10 := ineg h5 c8; clear h5
  refine b_iload_n C 0 dX1_parse_16 rfl rfl ?_
  obtain ⟨rfl, rfl⟩ := so2 h10
  exact b_iret C dX1_parse_17 hr
