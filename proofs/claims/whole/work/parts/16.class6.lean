def rmX2_roundsTo : Room := { frames := 6, cells := 0, slots := 0, locals := 153 }
def fX2_roundsTo (N : Nat) (σ : St) (a1 : Int32) (a2 : Int32) (a3 : Int32) : Option (Int32 × St) :=
  bd0 (fX2_isWidthGoal a1 a2 a3) fun r6 =>
  if r6 = (0 : Int32) then (
  some ((-1002 : Int32), σ))
  else (
  lt1 (gI σ 3) fun x10 =>
  bd2 (fX2_carryOutUntil N σ a1 a2 a3) fun r14 σ13 =>
  lt1 (sI σ13 3 x10) fun σ15 =>
  some (r14, σ15))
theorem ctX2_roundsTo {l : Launch} {ad : Nat → Nat} {ca : Nat → ClassId} {N : Nat} {σ : St} {a1 : Int32} {a2 : Int32} {a3 : Int32} {rf : Int32} {σf : St} (h : fX2_roundsTo N σ a1 a2 a3 = some (rf, σf)) : Cw l yX2_roundsTo cX2_roundsTo 6 (some .int) rmX2_roundsTo [.ref (ad 0), .int a1, .int a2, .int a3] (wX ad ca) (tyX ca) σ (some (.int rf)) σf := by
  refine Cw_of (by decide) (sameX ad ca) (Nat.le_of_ble_eq_true rfl) ?_
  intro p e s m args below meth c D A C X hr
  replace C : Cb p s m args meth c RX2 cX2_roundsTo 6 := C
  have h4 := h; clear h
  refine b_sub (lv' := [(0, .ref (ad 0)), (1, .int a1), (2, .int a2), (3, .int a3)]) [0, 1, 2, 3] rfl ?_
  refine b_iload_n C 1 dX2_roundsTo_0 rfl rfl ?_
  refine b_iload_n C 2 dX2_roundsTo_1 rfl rfl ?_
  refine b_iload_n C 3 dX2_roundsTo_2 rfl rfl ?_
  obtain ⟨r6, ec5, h5⟩ := bd0_inv h4; clear h4
  refine b_callSi (rest := []) C dX2_roundsTo_3 (ctX2_isWidthGoal ec5) mf_X2_isWidthGoal ms_X2_isWidthGoal kl_X2_118 rfl ⟨rfl, rfl⟩ ⟨Nat.le_of_ble_eq_true rfl, Nat.le_of_ble_eq_true rfl⟩ ⟨Nat.zero_le _, Nat.zero_le _⟩ rfl (Nat.le_of_ble_eq_true rfl) ?_
  refine b_if_ne (tgt := 13) C dX2_roundsTo_6 (by decide) (fun c7 => ?_) (fun c7 => ?_)
  · have h8 := ineg h5 c7; clear h5
    refine b_aload_n C 0 dX2_roundsTo_13 rfl rfl ?_
    refine gX2_72 C X dX2_roundsTo_14 ?_
    obtain ⟨x10, ex10, h11⟩ := lt1_inv h8; clear h8
    refine b_nmI ex10 ?_
    refine b_istore (lv' := [(4, .int x10), (0, .ref (ad 0)), (1, .int a1), (2, .int a2), (3, .int a3)]) C dX2_roundsTo_17 (by decide) rfl ?_
    refine b_aload_n C 1 dX2_roundsTo_19 rfl rfl ?_
    refine b_iload_n C 2 dX2_roundsTo_20 rfl rfl ?_
    refine b_iload_n C 3 dX2_roundsTo_21 rfl rfl ?_
    refine b_iload_n C 4 dX2_roundsTo_22 rfl rfl ?_
    obtain ⟨r14, σ13, ec12, h12⟩ := bd2_inv h11; clear h11
    refine b_callWi (rest := []) C (sameX ad ca) X dX2_roundsTo_23 (ctX2_carryOutUntil ec12) mf_X2_carryOutUntil mi_X2_carryOutUntil kl_X2_121 0 rfl rfl rfl rfl ⟨rfl, rfl⟩ ⟨Nat.le_of_ble_eq_true rfl, Nat.le_of_ble_eq_true rfl⟩ ⟨Nat.zero_le _, Nat.zero_le _⟩ rfl (Nat.le_of_ble_eq_true rfl) ?_
    refine b_istore (lv' := [(5, .int r14), (4, .int x10), (0, .ref (ad 0)), (1, .int a1), (2, .int a2), (3, .int a3)]) C dX2_roundsTo_26 (by decide) rfl ?_
    refine b_aload_n C 2 dX2_roundsTo_28 rfl rfl ?_
    refine b_iload C 1 dX2_roundsTo_29 rfl ?_
    refine pX2_72 C X dX2_roundsTo_31 ?_
    obtain ⟨σ15, eσ15, h16⟩ := lt1_inv h12; clear h12
    refine b_nmS eσ15 ?_
    refine b_iload C 0 dX2_roundsTo_34 rfl ?_
    obtain ⟨rfl, rfl⟩ := so2 h16
    exact b_iret C dX2_roundsTo_36 hr
  have h9 := ipos h5 c7; clear h5
  refine b_sipush (v := (-1002 : Int32)) C dX2_roundsTo_9 (by decide) ?_
  obtain ⟨rfl, rfl⟩ := so2 h9
  exact b_iret C dX2_roundsTo_12 hr
def rmX2_widthInFuture : Room := { frames := 5, cells := 0, slots := 0, locals := 129 }
def fX2_widthInFuture (N : Nat) (σ : St) (a1 : Int32) : Option (Int64 × St) :=
  lt1 (gI σ 3) fun x3 =>
  bd0 (fX2_carryOut N σ a1) fun σ6 =>
  bd2 (fX2_widthAfter N σ6 (gI σ6 3)) fun r9 σ8 =>
  lt1 (sI σ8 3 x3) fun σ10 =>
  some (r9, σ10)
theorem ctX2_widthInFuture {l : Launch} {ad : Nat → Nat} {ca : Nat → ClassId} {N : Nat} {σ : St} {a1 : Int32} {rf : Int64} {σf : St} (h : fX2_widthInFuture N σ a1 = some (rf, σf)) : Cw l yX2_widthInFuture cX2_widthInFuture 5 (some .long) rmX2_widthInFuture [.ref (ad 0), .int a1] (wX ad ca) (tyX ca) σ (some (.long rf)) σf := by
  refine Cw_of (by decide) (sameX ad ca) (Nat.le_of_ble_eq_true rfl) ?_
  intro p e s m args below meth c D A C X hr
  replace C : Cb p s m args meth c RX2 cX2_widthInFuture 5 := C
  have h2 := h; clear h
  refine b_sub (lv' := [(0, .ref (ad 0)), (1, .int a1)]) [0, 1] rfl ?_
  refine b_aload_n C 0 dX2_widthInFuture_0 rfl rfl ?_
  refine gX2_72 C X dX2_widthInFuture_1 ?_
  obtain ⟨x3, ex3, h4⟩ := lt1_inv h2; clear h2
  refine b_nmI ex3 ?_
  refine b_istore_n (lv' := [(2, .int x3), (0, .ref (ad 0)), (1, .int a1)]) C dX2_widthInFuture_4 rfl (by decide) rfl ?_
  refine b_aload_n C 1 dX2_widthInFuture_5 rfl rfl ?_
  refine b_iload_n C 2 dX2_widthInFuture_6 rfl rfl ?_
  obtain ⟨σ6, ec5, h5⟩ := bd0_inv h4; clear h4
  refine b_callWv (rest := []) C (sameX ad ca) X dX2_widthInFuture_7 (ctX2_carryOut ec5) mf_X2_carryOut mi_X2_carryOut kl_X2_114 0 rfl rfl rfl rfl ⟨rfl, rfl⟩ ⟨Nat.le_of_ble_eq_true rfl, Nat.le_of_ble_eq_true rfl⟩ ⟨Nat.zero_le _, Nat.zero_le _⟩ rfl (Nat.le_of_ble_eq_true rfl) ?_
  refine b_aload_n C 1 dX2_widthInFuture_10 rfl rfl ?_
  refine b_aload_n C 1 dX2_widthInFuture_11 rfl rfl ?_
  refine gX2_72 C X dX2_widthInFuture_12 ?_
  obtain ⟨r9, σ8, ec7, h7⟩ := bd2_inv h5; clear h5
  refine b_callWl (rest := []) C (sameX ad ca) X dX2_widthInFuture_15 (ctX2_widthAfter ec7) mf_X2_widthAfter mi_X2_widthAfter kl_X2_155 0 rfl rfl rfl rfl ⟨rfl, rfl⟩ ⟨Nat.le_of_ble_eq_true rfl, Nat.le_of_ble_eq_true rfl⟩ ⟨Nat.zero_le _, Nat.zero_le _⟩ rfl (Nat.le_of_ble_eq_true rfl) ?_
  refine b_lstore_n (lv' := [(3, .long r9), (2, .int x3), (0, .ref (ad 0)), (1, .int a1)]) C dX2_widthInFuture_18 rfl (by decide) rfl ?_
  refine b_aload_n C 2 dX2_widthInFuture_19 rfl rfl ?_
  refine b_iload_n C 1 dX2_widthInFuture_20 rfl rfl ?_
  refine pX2_72 C X dX2_widthInFuture_21 ?_
  obtain ⟨σ10, eσ10, h11⟩ := lt1_inv h7; clear h7
  refine b_nmS eσ10 ?_
  refine b_lload_n C 0 dX2_widthInFuture_24 rfl rfl ?_
  obtain ⟨rfl, rfl⟩ := so2 h11
  exact b_lret C dX2_widthInFuture_25 hr
def rmX2_worstStrategy : Room := { frames := 6, cells := 0, slots := 0, locals := 153 }
def fX2_worstStrategy_71b (N : Nat) (q114 : St → Int32 → Int32 → Int32 → Option (Int32 × St)) (q71 : St → Int32 → Int32 → Int32 → Int32 → Int64 → Int32 → Option (Int32 × St)) (σ34 : St) (x28 : Int32) (x29 : Int32) (x30 : Int32) (x31 : Int32) (x32 : Int64) (x33 : Int32) : Option (Int32 × St) :=
  if (5 : Int32) < x33 then (
  q114 σ34 x28 x30 x31)
  else (
  if (x28 < 0 ∨ 10 ≤ (x28).toNatClampNeg) then none else
  lt1 (sF σ34 2 (upd (gF σ34 2) (x28).toNatClampNeg x33)) fun σ41 =>
  bd2 (fX2_widthInFuture N σ41 x29) fun r45 σ44 =>
  if r45 ≤ x32 then (
  lt1 (x33 + (1 : Int32)) fun x49 =>
  q71 σ44 x28 x29 x30 x31 x32 x49)
  else (
  lt1 (x33 + (1 : Int32)) fun x51 =>
  q71 σ44 x28 x29 x30 x33 r45 x51))
def fX2_worstStrategy_71 (N : Nat) (q114 : St → Int32 → Int32 → Int32 → Option (Int32 × St)) : Nat → St → Int32 → Int32 → Int32 → Int32 → Int64 → Int32 → Option (Int32 × St)
  | 0, _, _, _, _, _, _, _ => none
  | n + 1, σ, x28, x29, x30, x31, x32, x33 => fX2_worstStrategy_71b N q114 (fX2_worstStrategy_71 N q114 n) σ x28 x29 x30 x31 x32 x33
def fX2_worstStrategy (N : Nat) (σ : St) (a1 : Int32) (a2 : Int32) : Option (Int32 × St) :=
  bd2 (fX2_isNode σ a1) fun r6 σ5 =>
  if r6 = (0 : Int32) then (
  some ((-1001 : Int32), σ5))
  else (
  bd0 (fX2_isWithin a2 (1 : Int32) (10 : Int32)) fun r11 =>
  if r11 = (0 : Int32) then (
  some ((-1002 : Int32), σ5))
  else (
  bd2 (fX2_isCorrect σ5 a1) fun r17 σ16 =>
  if r17 = (0 : Int32) then (
  if ((gI σ16 3) + a2) ≤ (60 : Int32) then (
  if (a1 < 0 ∨ 10 ≤ (a1).toNatClampNeg) then none else
  lt1 (gF σ16 2 (a1).toNatClampNeg) fun x26 =>
  fX2_worstStrategy_71 N (fun σ56 x53 x54 x55 =>
 if (x53 < 0 ∨ 10 ≤ (x53).toNatClampNeg) then none else
  lt1 (sF σ56 2 (upd (gF σ56 2) (x53).toNatClampNeg x54)) fun σ60 =>
  some (x55, σ60)) N σ16 a1 a2 x26 (1 : Int32) (-1 : Int64) (1 : Int32))
  else (
  some ((-1004 : Int32), σ16)))
  else (
  some ((-1003 : Int32), σ16))))
theorem wX2_worstStrategy_71 {l : Launch} {p : Program} {e : Env} {s : State} {m : MethodId} {args : Array Value} {below : List Frame} {meth : Method} {c : Code} {D : va_G} {A : Nat → Prop} {ad : Nat → Nat} {ca : Nat → ClassId} {rf : Int32} {σf : St} (C : Cb p s m args meth c RX2 cX2_worstStrategy 10) (X : Cx s D A (wX ad ca) (tyX ca)) (hr : meth.sig.returnType = (some .int)) {N : Nat} {q114 : St → Int32 → Int32 → Int32 → Option (Int32 × St)} (hq114 : ∀ (σ : St) (y0 : Int32) (y1 : Int32) (y2 : Int32), q114 σ y0 y1 y2 = some (rf, σf) → bW p l e rmX2_worstStrategy s m args below meth c 0 0 (MQ below (Qw D (wX ad ca) σf (some (.int rf)) A) args s 0 0 A) 10 (wd D A (wX ad ca) s σ) 114 [(0, .ref (ad 0)), (1, .int y0), (3, .int y1), (4, .int y2)] []) : ∀ n : Nat, ∀ (σ : St) (y0 : Int32) (y1 : Int32) (y2 : Int32) (y3 : Int32) (y4 : Int64) (y5 : Int32), fX2_worstStrategy_71 N q114 n σ y0 y1 y2 y3 y4 y5 = some (rf, σf) → bW p l e rmX2_worstStrategy s m args below meth c 0 0 (MQ below (Qw D (wX ad ca) σf (some (.int rf)) A) args s 0 0 A) 10 (wd D A (wX ad ca) s σ) 71 [(0, .ref (ad 0)), (1, .int y0), (2, .int y1), (3, .int y2), (4, .int y3), (5, .long y4), (7, .int y5)] [] := by
  intro n
  induction n with
  | zero => intro σ34 x28 x29 x30 x31 x32 x33 h35; exact nn h35
  | succ n hq71 =>
    intro σ34 x28 x29 x30 x31 x32 x33 h35
    replace h35 : fX2_worstStrategy_71b N q114 (fX2_worstStrategy_71 N q114 n) σ34 x28 x29 x30 x31 x32 x33 = some (rf, σf) := h35
    refine b_iload C 6 dX2_worstStrategy_71 rfl ?_
    refine b_iconst (v := (5 : Int32)) C dX2_worstStrategy_73 (by decide) ?_
    refine b_icmp_gt (tgt := 114) C dX2_worstStrategy_74 (by decide) (fun c36 => ?_) (fun c36 => ?_)
    · have h37 := ipos h35 c36; clear h35
      exact b_sub [0, 1, 3, 4] rfl (hq114 _ _ _ _ h37)
    have h38 := ineg h35 c36; clear h35
    refine b_aload_n C 0 dX2_worstStrategy_77 rfl rfl ?_
    refine gX2_34 C X dX2_worstStrategy_78 ?_
    refine b_iload_n C 1 dX2_worstStrategy_81 rfl rfl ?_
    refine b_iload C 6 dX2_worstStrategy_82 rfl ?_
    obtain ⟨g40, h39⟩ := gdn h38; clear h38
    refine aX_10 C X g40 dX2_worstStrategy_84 ?_
    obtain ⟨σ41, eσ41, h42⟩ := lt1_inv h39; clear h39
    refine b_nmS eσ41 ?_
    refine b_aload_n C 0 dX2_worstStrategy_85 rfl rfl ?_
    refine b_iload_n C 2 dX2_worstStrategy_86 rfl rfl ?_
    obtain ⟨r45, σ44, ec43, h43⟩ := bd2_inv h42; clear h42
    refine b_callWl (rest := []) C (sameX ad ca) X dX2_worstStrategy_87 (ctX2_widthInFuture ec43) mf_X2_widthInFuture mi_X2_widthInFuture kl_X2_174 0 rfl rfl rfl rfl ⟨rfl, rfl⟩ ⟨Nat.le_of_ble_eq_true rfl, Nat.le_of_ble_eq_true rfl⟩ ⟨Nat.zero_le _, Nat.zero_le _⟩ rfl (Nat.le_of_ble_eq_true rfl) ?_
    refine b_lstore (lv' := [(8, .long r45), (0, .ref (ad 0)), (1, .int x28), (2, .int x29), (3, .int x30), (4, .int x31), (5, .long x32), (7, .int x33)]) C dX2_worstStrategy_90 (by decide) rfl ?_
    refine b_lload C 0 dX2_worstStrategy_92 rfl ?_
    refine b_lload C 6 dX2_worstStrategy_94 rfl ?_
    refine b_lc_le (tgt := 108) C dX2_worstStrategy_96 dX2_worstStrategy_97 (by decide) (fun c46 => ?_) (fun c46 => ?_)
    · have h47 := ipos h43 c46; clear h43
      obtain ⟨x49, ex49, h50⟩ := lt1_inv h47; clear h47
      refine b_iinc (v := x49) (lv' := [(7, .int x49), (8, .long r45), (0, .ref (ad 0)), (1, .int x28), (2, .int x29), (3, .int x30), (4, .int x31), (5, .long x32)]) C 7 dX2_worstStrategy_108 rfl (by rw [ex49]; rfl) (by decide) rfl ?_
      refine b_goto (tgt := 71) C dX2_worstStrategy_111 (by decide) ?_
      exact b_sub [2, 3, 4, 5, 6, 7, 0] rfl (hq71 _ _ _ _ _ _ _ h50)
    have h48 := ineg h43 c46; clear h43
    refine b_lload C 0 dX2_worstStrategy_100 rfl ?_
    refine b_lstore (lv' := [(5, .long r45), (8, .long r45), (0, .ref (ad 0)), (1, .int x28), (2, .int x29), (3, .int x30), (4, .int x31), (7, .int x33)]) C dX2_worstStrategy_102 (by decide) rfl ?_
    refine b_iload C 7 dX2_worstStrategy_104 rfl ?_
    refine b_istore (lv' := [(4, .int x33), (5, .long r45), (8, .long r45), (0, .ref (ad 0)), (1, .int x28), (2, .int x29), (3, .int x30), (7, .int x33)]) C dX2_worstStrategy_106 (by decide) rfl ?_
    obtain ⟨x51, ex51, h52⟩ := lt1_inv h48; clear h48
    refine b_iinc (v := x51) (lv' := [(7, .int x51), (4, .int x33), (5, .long r45), (8, .long r45), (0, .ref (ad 0)), (1, .int x28), (2, .int x29), (3, .int x30)]) C 7 dX2_worstStrategy_108 rfl (by rw [ex51]; rfl) (by decide) rfl ?_
    refine b_goto (tgt := 71) C dX2_worstStrategy_111 (by decide) ?_
    exact b_sub [4, 5, 6, 7, 1, 2, 0] rfl (hq71 _ _ _ _ _ _ _ h52)
theorem ctX2_worstStrategy {l : Launch} {ad : Nat → Nat} {ca : Nat → ClassId} {N : Nat} {σ : St} {a1 : Int32} {a2 : Int32} {rf : Int32} {σf : St} (h : fX2_worstStrategy N σ a1 a2 = some (rf, σf)) : Cw l yX2_worstStrategy cX2_worstStrategy 10 (some .int) rmX2_worstStrategy [.ref (ad 0), .int a1, .int a2] (wX ad ca) (tyX ca) σ (some (.int rf)) σf := by
  refine Cw_of (by decide) (sameX ad ca) (Nat.le_of_ble_eq_true rfl) ?_
  intro p e s m args below meth c D A C X hr
  replace C : Cb p s m args meth c RX2 cX2_worstStrategy 10 := C
  have h3 := h; clear h
  refine b_sub (lv' := [(0, .ref (ad 0)), (1, .int a1), (2, .int a2)]) [0, 1, 2] rfl ?_
  refine b_aload_n C 0 dX2_worstStrategy_0 rfl rfl ?_
  refine b_iload_n C 1 dX2_worstStrategy_1 rfl rfl ?_
  obtain ⟨r6, σ5, ec4, h4⟩ := bd2_inv h3; clear h3
  refine b_callWi (rest := []) C (sameX ad ca) X dX2_worstStrategy_2 (ctX2_isNode ec4) mf_X2_isNode mi_X2_isNode kl_X2_68 0 rfl rfl rfl rfl ⟨rfl, rfl⟩ ⟨Nat.le_of_ble_eq_true rfl, Nat.le_of_ble_eq_true rfl⟩ ⟨Nat.zero_le _, Nat.zero_le _⟩ rfl (Nat.le_of_ble_eq_true rfl) ?_
  refine b_if_ne (tgt := 12) C dX2_worstStrategy_5 (by decide) (fun c7 => ?_) (fun c7 => ?_)
  · have h8 := ineg h4 c7; clear h4
    refine b_iload_n C 2 dX2_worstStrategy_12 rfl rfl ?_
    refine b_iconst (v := (1 : Int32)) C dX2_worstStrategy_13 (by decide) ?_
    refine b_bipush (v := (10 : Int32)) C dX2_worstStrategy_14 (by decide) ?_
    obtain ⟨r11, ec10, h10⟩ := bd0_inv h8; clear h8
    refine b_callSi (rest := []) C dX2_worstStrategy_16 (ctX2_isWithin ec10) mf_X2_isWithin ms_X2_isWithin kl_X2_49 rfl ⟨rfl, rfl⟩ ⟨Nat.le_of_ble_eq_true rfl, Nat.le_of_ble_eq_true rfl⟩ ⟨Nat.zero_le _, Nat.zero_le _⟩ rfl (Nat.le_of_ble_eq_true rfl) ?_
    refine b_if_ne (tgt := 26) C dX2_worstStrategy_19 (by decide) (fun c12 => ?_) (fun c12 => ?_)
    · have h13 := ineg h10 c12; clear h10
      refine b_aload_n C 0 dX2_worstStrategy_26 rfl rfl ?_
      refine b_iload_n C 1 dX2_worstStrategy_27 rfl rfl ?_
      obtain ⟨r17, σ16, ec15, h15⟩ := bd2_inv h13; clear h13
      refine b_callWi (rest := []) C (sameX ad ca) X dX2_worstStrategy_28 (ctX2_isCorrect ec15) mf_X2_isCorrect mi_X2_isCorrect kl_X2_125 0 rfl rfl rfl rfl ⟨rfl, rfl⟩ ⟨Nat.le_of_ble_eq_true rfl, Nat.le_of_ble_eq_true rfl⟩ ⟨Nat.zero_le _, Nat.zero_le _⟩ rfl (Nat.le_of_ble_eq_true rfl) ?_
      refine b_if_eq (tgt := 38) C dX2_worstStrategy_31 (by decide) (fun c18 => ?_) (fun c18 => ?_)
      · have h19 := ipos h15 c18; clear h15
        refine b_aload_n C 0 dX2_worstStrategy_38 rfl rfl ?_
        refine gX2_72 C X dX2_worstStrategy_39 ?_
        refine b_iload_n C 2 dX2_worstStrategy_42 rfl rfl ?_
        refine b_iadd C dX2_worstStrategy_43 ?_
        refine b_bipush (v := (60 : Int32)) C dX2_worstStrategy_44 (by decide) ?_
        refine b_icmp_le (tgt := 53) C dX2_worstStrategy_46 (by decide) (fun c21 => ?_) (fun c21 => ?_)
        · have h22 := ipos h19 c21; clear h19
          refine b_aload_n C 0 dX2_worstStrategy_53 rfl rfl ?_
          refine gX2_34 C X dX2_worstStrategy_54 ?_
          refine b_iload_n C 1 dX2_worstStrategy_57 rfl rfl ?_
          obtain ⟨g25, h24⟩ := gdn h22; clear h22
          refine lX_10 C X g25 dX2_worstStrategy_58 ?_
          obtain ⟨x26, ex26, h27⟩ := lt1_inv h24; clear h24
          refine b_nmI ex26 ?_
          refine b_istore_n (lv' := [(3, .int x26), (0, .ref (ad 0)), (1, .int a1), (2, .int a2)]) C dX2_worstStrategy_59 rfl (by decide) rfl ?_
          refine b_iconst (v := (1 : Int32)) C dX2_worstStrategy_60 (by decide) ?_
          refine b_istore (lv' := [(4, .int (1 : Int32)), (3, .int x26), (0, .ref (ad 0)), (1, .int a1), (2, .int a2)]) C dX2_worstStrategy_61 (by decide) rfl ?_
          refine b_ldc2 (v := (-1 : Int64)) C dX2_worstStrategy_63 kc_X2_172 ?_
          refine b_lstore (lv' := [(5, .long (-1 : Int64)), (4, .int (1 : Int32)), (3, .int x26), (0, .ref (ad 0)), (1, .int a1), (2, .int a2)]) C dX2_worstStrategy_66 (by decide) rfl ?_
          refine b_iconst (v := (1 : Int32)) C dX2_worstStrategy_68 (by decide) ?_
          refine b_istore (lv' := [(7, .int (1 : Int32)), (5, .long (-1 : Int64)), (4, .int (1 : Int32)), (3, .int x26), (0, .ref (ad 0)), (1, .int a1), (2, .int a2)]) C dX2_worstStrategy_69 (by decide) rfl ?_
          refine b_sub [4, 5, 6, 3, 2, 1, 0] rfl (wX2_worstStrategy_71 C X hr (fun σ56 x53 x54 x55 h57 => ?_) _ _ _ _ _ _ _ _ h27)
          refine b_aload_n C 0 dX2_worstStrategy_114 rfl rfl ?_
          refine gX2_34 C X dX2_worstStrategy_115 ?_
          refine b_iload_n C 1 dX2_worstStrategy_118 rfl rfl ?_
          refine b_iload_n C 2 dX2_worstStrategy_119 rfl rfl ?_
          obtain ⟨g59, h58⟩ := gdn h57; clear h57
          refine aX_10 C X g59 dX2_worstStrategy_120 ?_
          obtain ⟨σ60, eσ60, h61⟩ := lt1_inv h58; clear h58
          refine b_nmS eσ60 ?_
          refine b_iload C 3 dX2_worstStrategy_121 rfl ?_
          obtain ⟨rfl, rfl⟩ := so2 h61
          exact b_iret C dX2_worstStrategy_123 hr
        have h23 := ineg h19 c21; clear h19
        refine b_sipush (v := (-1004 : Int32)) C dX2_worstStrategy_49 (by decide) ?_
        obtain ⟨rfl, rfl⟩ := so2 h23
        exact b_iret C dX2_worstStrategy_52 hr
      have h20 := ineg h15 c18; clear h15
      refine b_sipush (v := (-1003 : Int32)) C dX2_worstStrategy_34 (by decide) ?_
      obtain ⟨rfl, rfl⟩ := so2 h20
      exact b_iret C dX2_worstStrategy_37 hr
    have h14 := ipos h10 c12; clear h10
    refine b_sipush (v := (-1002 : Int32)) C dX2_worstStrategy_22 (by decide) ?_
    obtain ⟨rfl, rfl⟩ := so2 h14
    exact b_iret C dX2_worstStrategy_25 hr
  have h9 := ipos h4 c7; clear h4
  refine b_sipush (v := (-1001 : Int32)) C dX2_worstStrategy_8 (by decide) ?_
  obtain ⟨rfl, rfl⟩ := so2 h9
  exact b_iret C dX2_worstStrategy_11 hr
def rmX2_bestRule : Room := { frames := 6, cells := 0, slots := 0, locals := 153 }
def fX2_bestRule_42b (N : Nat) (q87 : St → Int32 → Int32 → Option (Int32 × St)) (q42 : St → Int32 → Int32 → Int32 → Int64 → Int32 → Option (Int32 × St)) (σ18 : St) (x13 : Int32) (x14 : Int32) (x15 : Int32) (x16 : Int64) (x17 : Int32) : Option (Int32 × St) :=
  if (3 : Int32) < x17 then (
  q87 σ18 x14 x15)
  else (
  lt1 (sI σ18 4 x17) fun σ23 =>
  bd2 (fX2_widthInFuture N σ23 x13) fun r27 σ26 =>
  if x17 = (0 : Int32) then (
  lt1 (x17 + (1 : Int32)) fun x31 =>
  q42 σ26 x13 x14 x17 r27 x31)
  else (
  if x16 ≤ r27 then (
  lt1 (x17 + (1 : Int32)) fun x36 =>
  q42 σ26 x13 x14 x15 x16 x36)
  else (
  lt1 (x17 + (1 : Int32)) fun x38 =>
  q42 σ26 x13 x14 x17 r27 x38)))
def fX2_bestRule_42 (N : Nat) (q87 : St → Int32 → Int32 → Option (Int32 × St)) : Nat → St → Int32 → Int32 → Int32 → Int64 → Int32 → Option (Int32 × St)
  | 0, _, _, _, _, _, _ => none
  | n + 1, σ, x13, x14, x15, x16, x17 => fX2_bestRule_42b N q87 (fX2_bestRule_42 N q87 n) σ x13 x14 x15 x16 x17
def fX2_bestRule (N : Nat) (σ : St) (a1 : Int32) : Option (Int32 × St) :=
  bd0 (fX2_isWithin a1 (1 : Int32) (10 : Int32)) fun r4 =>
  if r4 = (0 : Int32) then (
  some ((-1002 : Int32), σ))
  else (
  if ((gI σ 3) + a1) ≤ (60 : Int32) then (
  lt1 (gI σ 4) fun x11 =>
  fX2_bestRule_42 N (fun σ42 x40 x41 =>
 lt1 (sI σ42 4 x40) fun σ44 =>
  some (x41, σ44)) N σ a1 x11 (0 : Int32) (0 : Int64) (0 : Int32))
  else (
  some ((-1004 : Int32), σ)))
theorem wX2_bestRule_42 {l : Launch} {p : Program} {e : Env} {s : State} {m : MethodId} {args : Array Value} {below : List Frame} {meth : Method} {c : Code} {D : va_G} {A : Nat → Prop} {ad : Nat → Nat} {ca : Nat → ClassId} {rf : Int32} {σf : St} (C : Cb p s m args meth c RX2 cX2_bestRule 9) (X : Cx s D A (wX ad ca) (tyX ca)) (hr : meth.sig.returnType = (some .int)) {N : Nat} {q87 : St → Int32 → Int32 → Option (Int32 × St)} (hq87 : ∀ (σ : St) (y0 : Int32) (y1 : Int32), q87 σ y0 y1 = some (rf, σf) → bW p l e rmX2_bestRule s m args below meth c 0 0 (MQ below (Qw D (wX ad ca) σf (some (.int rf)) A) args s 0 0 A) 9 (wd D A (wX ad ca) s σ) 87 [(0, .ref (ad 0)), (2, .int y0), (3, .int y1)] []) : ∀ n : Nat, ∀ (σ : St) (y0 : Int32) (y1 : Int32) (y2 : Int32) (y3 : Int64) (y4 : Int32), fX2_bestRule_42 N q87 n σ y0 y1 y2 y3 y4 = some (rf, σf) → bW p l e rmX2_bestRule s m args below meth c 0 0 (MQ below (Qw D (wX ad ca) σf (some (.int rf)) A) args s 0 0 A) 9 (wd D A (wX ad ca) s σ) 42 [(0, .ref (ad 0)), (1, .int y0), (2, .int y1), (3, .int y2), (4, .long y3), (6, .int y4)] [] := by
  intro n
  induction n with
  | zero => intro σ18 x13 x14 x15 x16 x17 h19; exact nn h19
  | succ n hq42 =>
    intro σ18 x13 x14 x15 x16 x17 h19
    replace h19 : fX2_bestRule_42b N q87 (fX2_bestRule_42 N q87 n) σ18 x13 x14 x15 x16 x17 = some (rf, σf) := h19
    refine b_iload C 5 dX2_bestRule_42 rfl ?_
    refine b_iconst (v := (3 : Int32)) C dX2_bestRule_44 (by decide) ?_
    refine b_icmp_gt (tgt := 87) C dX2_bestRule_45 (by decide) (fun c20 => ?_) (fun c20 => ?_)
    · have h21 := ipos h19 c20; clear h19
      exact b_sub [0, 2, 3] rfl (hq87 _ _ _ h21)
    have h22 := ineg h19 c20; clear h19
    refine b_aload_n C 0 dX2_bestRule_48 rfl rfl ?_
    refine b_iload C 5 dX2_bestRule_49 rfl ?_
    refine pX2_98 C X dX2_bestRule_51 ?_
    obtain ⟨σ23, eσ23, h24⟩ := lt1_inv h22; clear h22
    refine b_nmS eσ23 ?_
    refine b_aload_n C 0 dX2_bestRule_54 rfl rfl ?_
    refine b_iload_n C 1 dX2_bestRule_55 rfl rfl ?_
    obtain ⟨r27, σ26, ec25, h25⟩ := bd2_inv h24; clear h24
    refine b_callWl (rest := []) C (sameX ad ca) X dX2_bestRule_56 (ctX2_widthInFuture ec25) mf_X2_widthInFuture mi_X2_widthInFuture kl_X2_174 0 rfl rfl rfl rfl ⟨rfl, rfl⟩ ⟨Nat.le_of_ble_eq_true rfl, Nat.le_of_ble_eq_true rfl⟩ ⟨Nat.zero_le _, Nat.zero_le _⟩ rfl (Nat.le_of_ble_eq_true rfl) ?_
    refine b_lstore (lv' := [(7, .long r27), (0, .ref (ad 0)), (1, .int x13), (2, .int x14), (3, .int x15), (4, .long x16), (6, .int x17)]) C dX2_bestRule_59 (by decide) rfl ?_
    refine b_iload C 6 dX2_bestRule_61 rfl ?_
    refine b_if_eq (tgt := 74) C dX2_bestRule_63 (by decide) (fun c28 => ?_) (fun c28 => ?_)
    · have h29 := ipos h25 c28; clear h25
      refine b_lload C 0 dX2_bestRule_74 rfl ?_
      refine b_lstore (lv' := [(4, .long r27), (7, .long r27), (0, .ref (ad 0)), (1, .int x13), (2, .int x14), (3, .int x15), (6, .int x17)]) C dX2_bestRule_76 (by decide) rfl ?_
      refine b_iload C 6 dX2_bestRule_78 rfl ?_
      refine b_istore_n (lv' := [(3, .int x17), (4, .long r27), (7, .long r27), (0, .ref (ad 0)), (1, .int x13), (2, .int x14), (6, .int x17)]) C dX2_bestRule_80 rfl (by decide) rfl ?_
      obtain ⟨x31, ex31, h32⟩ := lt1_inv h29; clear h29
      refine b_iinc (v := x31) (lv' := [(6, .int x31), (3, .int x17), (4, .long r27), (7, .long r27), (0, .ref (ad 0)), (1, .int x13), (2, .int x14)]) C 6 dX2_bestRule_81 rfl (by rw [ex31]; rfl) (by decide) rfl ?_
      refine b_goto (tgt := 42) C dX2_bestRule_84 (by decide) ?_
      exact b_sub [4, 5, 6, 1, 2, 0] rfl (hq42 _ _ _ _ _ _ h32)
    have h30 := ineg h25 c28; clear h25
    refine b_lload C 0 dX2_bestRule_66 rfl ?_
    refine b_lload C 5 dX2_bestRule_68 rfl ?_
    refine b_lc_ge (tgt := 81) C dX2_bestRule_70 dX2_bestRule_71 (by decide) (fun c33 => ?_) (fun c33 => ?_)
    · have h34 := ipos h30 c33; clear h30
      obtain ⟨x36, ex36, h37⟩ := lt1_inv h34; clear h34
      refine b_iinc (v := x36) (lv' := [(6, .int x36), (7, .long r27), (0, .ref (ad 0)), (1, .int x13), (2, .int x14), (3, .int x15), (4, .long x16)]) C 6 dX2_bestRule_81 rfl (by rw [ex36]; rfl) (by decide) rfl ?_
      refine b_goto (tgt := 42) C dX2_bestRule_84 (by decide) ?_
      exact b_sub [2, 3, 4, 5, 6, 0] rfl (hq42 _ _ _ _ _ _ h37)
    have h35 := ineg h30 c33; clear h30
    refine b_lload C 0 dX2_bestRule_74 rfl ?_
    refine b_lstore (lv' := [(4, .long r27), (7, .long r27), (0, .ref (ad 0)), (1, .int x13), (2, .int x14), (3, .int x15), (6, .int x17)]) C dX2_bestRule_76 (by decide) rfl ?_
    refine b_iload C 6 dX2_bestRule_78 rfl ?_
    refine b_istore_n (lv' := [(3, .int x17), (4, .long r27), (7, .long r27), (0, .ref (ad 0)), (1, .int x13), (2, .int x14), (6, .int x17)]) C dX2_bestRule_80 rfl (by decide) rfl ?_
    obtain ⟨x38, ex38, h39⟩ := lt1_inv h35; clear h35
    refine b_iinc (v := x38) (lv' := [(6, .int x38), (3, .int x17), (4, .long r27), (7, .long r27), (0, .ref (ad 0)), (1, .int x13), (2, .int x14)]) C 6 dX2_bestRule_81 rfl (by rw [ex38]; rfl) (by decide) rfl ?_
    refine b_goto (tgt := 42) C dX2_bestRule_84 (by decide) ?_
    exact b_sub [4, 5, 6, 1, 2, 0] rfl (hq42 _ _ _ _ _ _ h39)
theorem ctX2_bestRule {l : Launch} {ad : Nat → Nat} {ca : Nat → ClassId} {N : Nat} {σ : St} {a1 : Int32} {rf : Int32} {σf : St} (h : fX2_bestRule N σ a1 = some (rf, σf)) : Cw l yX2_bestRule cX2_bestRule 9 (some .int) rmX2_bestRule [.ref (ad 0), .int a1] (wX ad ca) (tyX ca) σ (some (.int rf)) σf := by
  refine Cw_of (by decide) (sameX ad ca) (Nat.le_of_ble_eq_true rfl) ?_
  intro p e s m args below meth c D A C X hr
  replace C : Cb p s m args meth c RX2 cX2_bestRule 9 := C
  have h2 := h; clear h
  refine b_sub (lv' := [(0, .ref (ad 0)), (1, .int a1)]) [0, 1] rfl ?_
  refine b_iload_n C 1 dX2_bestRule_0 rfl rfl ?_
  refine b_iconst (v := (1 : Int32)) C dX2_bestRule_1 (by decide) ?_
  refine b_bipush (v := (10 : Int32)) C dX2_bestRule_2 (by decide) ?_
  obtain ⟨r4, ec3, h3⟩ := bd0_inv h2; clear h2
  refine b_callSi (rest := []) C dX2_bestRule_4 (ctX2_isWithin ec3) mf_X2_isWithin ms_X2_isWithin kl_X2_49 rfl ⟨rfl, rfl⟩ ⟨Nat.le_of_ble_eq_true rfl, Nat.le_of_ble_eq_true rfl⟩ ⟨Nat.zero_le _, Nat.zero_le _⟩ rfl (Nat.le_of_ble_eq_true rfl) ?_
  refine b_if_ne (tgt := 14) C dX2_bestRule_7 (by decide) (fun c5 => ?_) (fun c5 => ?_)
  · have h6 := ineg h3 c5; clear h3
    refine b_aload_n C 0 dX2_bestRule_14 rfl rfl ?_
    refine gX2_72 C X dX2_bestRule_15 ?_
    refine b_iload_n C 1 dX2_bestRule_18 rfl rfl ?_
    refine b_iadd C dX2_bestRule_19 ?_
    refine b_bipush (v := (60 : Int32)) C dX2_bestRule_20 (by decide) ?_
    refine b_icmp_le (tgt := 29) C dX2_bestRule_22 (by decide) (fun c8 => ?_) (fun c8 => ?_)
    · have h9 := ipos h6 c8; clear h6
      refine b_aload_n C 0 dX2_bestRule_29 rfl rfl ?_
      refine gX2_98 C X dX2_bestRule_30 ?_
      obtain ⟨x11, ex11, h12⟩ := lt1_inv h9; clear h9
      refine b_nmI ex11 ?_
      refine b_istore_n (lv' := [(2, .int x11), (0, .ref (ad 0)), (1, .int a1)]) C dX2_bestRule_33 rfl (by decide) rfl ?_
      refine b_iconst (v := (0 : Int32)) C dX2_bestRule_34 (by decide) ?_
      refine b_istore_n (lv' := [(3, .int (0 : Int32)), (2, .int x11), (0, .ref (ad 0)), (1, .int a1)]) C dX2_bestRule_35 rfl (by decide) rfl ?_
      refine b_lconst (v := (0 : Int64)) C dX2_bestRule_36 (by decide) ?_
      refine b_lstore (lv' := [(4, .long (0 : Int64)), (3, .int (0 : Int32)), (2, .int x11), (0, .ref (ad 0)), (1, .int a1)]) C dX2_bestRule_37 (by decide) rfl ?_
      refine b_iconst (v := (0 : Int32)) C dX2_bestRule_39 (by decide) ?_
      refine b_istore (lv' := [(6, .int (0 : Int32)), (4, .long (0 : Int64)), (3, .int (0 : Int32)), (2, .int x11), (0, .ref (ad 0)), (1, .int a1)]) C dX2_bestRule_40 (by decide) rfl ?_
      refine b_sub [4, 5, 3, 2, 1, 0] rfl (wX2_bestRule_42 C X hr (fun σ42 x40 x41 h43 => ?_) _ _ _ _ _ _ _ h12)
      refine b_aload_n C 0 dX2_bestRule_87 rfl rfl ?_
      refine b_iload_n C 1 dX2_bestRule_88 rfl rfl ?_
      refine pX2_98 C X dX2_bestRule_89 ?_
      obtain ⟨σ44, eσ44, h45⟩ := lt1_inv h43; clear h43
      refine b_nmS eσ44 ?_
      refine b_iload_n C 2 dX2_bestRule_92 rfl rfl ?_
      obtain ⟨rfl, rfl⟩ := so2 h45
      exact b_iret C dX2_bestRule_93 hr
    have h10 := ineg h6 c8; clear h6
    refine b_sipush (v := (-1004 : Int32)) C dX2_bestRule_25 (by decide) ?_
    obtain ⟨rfl, rfl⟩ := so2 h10
    exact b_iret C dX2_bestRule_28 hr
  have h7 := ipos h3 c5; clear h3
  refine b_sipush (v := (-1002 : Int32)) C dX2_bestRule_10 (by decide) ?_
  obtain ⟨rfl, rfl⟩ := so2 h7
  exact b_iret C dX2_bestRule_13 hr
