def rmX1_append : Room := { frames := 0, cells := 0, slots := 0, locals := 0 }
def fX1_append (σ : St) (a1 : Int32) : Option (Int32 × St) :=
  if (gI σ 5) < (0 : Int32) then (
  some ((0 : Int32), σ))
  else (
  if (gI σ 5) < (40 : Int32) then (
  if ((gI σ 5) < 0 ∨ 40 ≤ ((gI σ 5)).toNatClampNeg) then none else
  lt1 (sF σ 0 (upd (gF σ 0) ((gI σ 5)).toNatClampNeg (vp_nar .char a1))) fun σ11 =>
  lt1 (sI σ11 5 ((gI σ11 5) + (1 : Int32))) fun σ13 =>
  some ((1 : Int32), σ13))
  else (
  some ((0 : Int32), σ)))
theorem ctX1_append {l : Launch} {ad : Nat → Nat} {ca : Nat → ClassId} {σ : St} {a1 : Int32} {rf : Int32} {σf : St} (h : fX1_append σ a1 = some (rf, σf)) : Cw l yX1_append cX1_append 2 (some .boolean) rmX1_append [.ref (ad 1), .int a1] (wX ad ca) (tyX ca) σ (some (.int rf)) σf := by
  refine Cw_of (by decide) (sameX ad ca) (Nat.le_of_ble_eq_true rfl) ?_
  intro p e s m args below meth c D A C X hr
  replace C : Cb p s m args meth c RX1 cX1_append 2 := C
  have h2 := h; clear h
  refine b_sub (lv' := [(0, .ref (ad 1)), (1, .int a1)]) [0, 1] rfl ?_
  refine b_aload_n C 0 dX1_append_0 rfl rfl ?_
  refine gX1_15 C X dX1_append_1 ?_
  refine b_if_lt (tgt := 19) C dX1_append_4 (by decide) (fun c3 => ?_) (fun c3 => ?_)
  · have h4 := ipos h2 c3; clear h2
    refine b_iconst (v := (0 : Int32)) C dX1_append_19 (by decide) ?_
    obtain ⟨rfl, rfl⟩ := so2 h4
    exact b_zret C dX1_append_20 hr rfl
  have h5 := ineg h2 c3; clear h2
  refine b_aload_n C 0 dX1_append_7 rfl rfl ?_
  refine gX1_15 C X dX1_append_8 ?_
  refine b_aload_n C 0 dX1_append_11 rfl rfl ?_
  refine gX1_9 C X dX1_append_12 ?_
  refine nX_2 C X dX1_append_15 ?_
  refine b_icmp_lt (tgt := 21) C dX1_append_16 (by decide) (fun c6 => ?_) (fun c6 => ?_)
  · have h7 := ipos h5 c6; clear h5
    refine b_aload_n C 0 dX1_append_21 rfl rfl ?_
    refine gX1_9 C X dX1_append_22 ?_
    refine b_aload_n C 0 dX1_append_25 rfl rfl ?_
    refine gX1_15 C X dX1_append_26 ?_
    refine b_iload_n C 1 dX1_append_29 rfl rfl ?_
    obtain ⟨g10, h9⟩ := gdn h7; clear h7
    refine aX_2 C X g10 dX1_append_30 ?_
    obtain ⟨σ11, eσ11, h12⟩ := lt1_inv h9; clear h9
    refine b_nmS eσ11 ?_
    refine b_aload_n C 0 dX1_append_31 rfl rfl ?_
    refine b_dup C dX1_append_32 rfl ?_
    refine gX1_15 C X dX1_append_33 ?_
    refine b_iconst (v := (1 : Int32)) C dX1_append_36 (by decide) ?_
    refine b_iadd C dX1_append_37 ?_
    refine pX1_15 C X dX1_append_38 ?_
    obtain ⟨σ13, eσ13, h14⟩ := lt1_inv h12; clear h12
    refine b_nmS eσ13 ?_
    refine b_iconst (v := (1 : Int32)) C dX1_append_41 (by decide) ?_
    obtain ⟨rfl, rfl⟩ := so2 h14
    exact b_zret C dX1_append_42 hr rfl
  have h8 := ineg h5 c6; clear h5
  refine b_iconst (v := (0 : Int32)) C dX1_append_19 (by decide) ?_
  obtain ⟨rfl, rfl⟩ := so2 h8
  exact b_zret C dX1_append_20 hr rfl
def rmX1_size : Room := { frames := 0, cells := 0, slots := 0, locals := 0 }
def fX1_size (σ : St) : Option (Int32 × St) :=
  some ((gI σ 5), σ)
theorem ctX1_size {l : Launch} {ad : Nat → Nat} {ca : Nat → ClassId} {σ : St} {rf : Int32} {σf : St} (h : fX1_size σ = some (rf, σf)) : Cw l yX1_size cX1_size 1 (some .int) rmX1_size [.ref (ad 1)] (wX ad ca) (tyX ca) σ (some (.int rf)) σf := by
  refine Cw_of (by decide) (sameX ad ca) (Nat.le_of_ble_eq_true rfl) ?_
  intro p e s m args below meth c D A C X hr
  replace C : Cb p s m args meth c RX1 cX1_size 1 := C
  have h1 := h; clear h
  refine b_sub (lv' := [(0, .ref (ad 1))]) [0] rfl ?_
  refine b_aload_n C 0 dX1_size_0 rfl rfl ?_
  refine gX1_15 C X dX1_size_1 ?_
  obtain ⟨rfl, rfl⟩ := so2 h1
  exact b_iret C dX1_size_4 hr
def rmX2_type : Room := { frames := 1, cells := 0, slots := 0, locals := 21 }
def fX2_type (σ : St) (a1 : Int32) : Option (Int32 × St) :=
  bd2 (fX1_append σ a1) fun r5 σ4 =>
  if r5 = (0 : Int32) then (
  some ((-1004 : Int32), σ4))
  else (
  bd2 (fX1_size σ4) fun r11 σ10 =>
  some (r11, σ10))
theorem ctX2_type {l : Launch} {ad : Nat → Nat} {ca : Nat → ClassId} {σ : St} {a1 : Int32} {rf : Int32} {σf : St} (h : fX2_type σ a1 = some (rf, σf)) : Cw l yX2_type cX2_type 2 (some .int) rmX2_type [.ref (ad 0), .int a1] (wX ad ca) (tyX ca) σ (some (.int rf)) σf := by
  refine Cw_of (by decide) (sameX ad ca) (Nat.le_of_ble_eq_true rfl) ?_
  intro p e s m args below meth c D A C X hr
  replace C : Cb p s m args meth c RX2 cX2_type 2 := C
  have h2 := h; clear h
  refine b_sub (lv' := [(0, .ref (ad 0)), (1, .int a1)]) [0, 1] rfl ?_
  refine b_aload_n C 0 dX2_type_0 rfl rfl ?_
  refine gX2_12 C X dX2_type_1 ?_
  refine b_iload_n C 1 dX2_type_4 rfl rfl ?_
  obtain ⟨r5, σ4, ec3, h3⟩ := bd2_inv h2; clear h2
  refine b_callWi (rest := []) C (sameX ad ca) X dX2_type_5 (ctX1_append ec3) mf_X1_append mi_X1_append kl_X2_57 1 rfl rfl rfl rfl ⟨rfl, rfl⟩ ⟨Nat.le_of_ble_eq_true rfl, Nat.le_of_ble_eq_true rfl⟩ ⟨Nat.zero_le _, Nat.zero_le _⟩ rfl (Nat.le_of_ble_eq_true rfl) ?_
  refine b_if_eq (tgt := 21) C dX2_type_8 (by decide) (fun c6 => ?_) (fun c6 => ?_)
  · have h7 := ipos h3 c6; clear h3
    refine b_sipush (v := (-1004 : Int32)) C dX2_type_21 (by decide) ?_
    obtain ⟨rfl, rfl⟩ := so2 h7
    exact b_iret C dX2_type_24 hr
  have h8 := ineg h3 c6; clear h3
  refine b_aload_n C 0 dX2_type_11 rfl rfl ?_
  refine gX2_12 C X dX2_type_12 ?_
  obtain ⟨r11, σ10, ec9, h9⟩ := bd2_inv h8; clear h8
  refine b_callWi (rest := []) C (sameX ad ca) X dX2_type_15 (ctX1_size ec9) mf_X1_size mi_X1_size kl_X2_61 1 rfl rfl rfl rfl ⟨rfl, rfl⟩ ⟨Nat.le_of_ble_eq_true rfl, Nat.le_of_ble_eq_true rfl⟩ ⟨Nat.zero_le _, Nat.zero_le _⟩ rfl (Nat.le_of_ble_eq_true rfl) ?_
  refine b_goto (tgt := 24) C dX2_type_18 (by decide) ?_
  obtain ⟨rfl, rfl⟩ := so2 h9
  exact b_iret C dX2_type_24 hr
def rmX2_isCorrect : Room := { frames := 0, cells := 0, slots := 0, locals := 0 }
def fX2_isCorrect (σ : St) (a1 : Int32) : Option (Int32 × St) :=
  if a1 < (0 : Int32) then (
  some ((0 : Int32), σ))
  else (
  if (gI σ 0) ≤ a1 then (
  some ((0 : Int32), σ))
  else (
  if (a1 < 0 ∨ 10 ≤ (a1).toNatClampNeg) then none else
  if (gF σ 2 (a1).toNatClampNeg) = (0 : Int32) then (
  some ((1 : Int32), σ))
  else (
  some ((0 : Int32), σ))))
theorem ctX2_isCorrect {l : Launch} {ad : Nat → Nat} {ca : Nat → ClassId} {σ : St} {a1 : Int32} {rf : Int32} {σf : St} (h : fX2_isCorrect σ a1 = some (rf, σf)) : Cw l yX2_isCorrect cX2_isCorrect 2 (some .boolean) rmX2_isCorrect [.ref (ad 0), .int a1] (wX ad ca) (tyX ca) σ (some (.int rf)) σf := by
  refine Cw_of (by decide) (sameX ad ca) (Nat.le_of_ble_eq_true rfl) ?_
  intro p e s m args below meth c D A C X hr
  replace C : Cb p s m args meth c RX2 cX2_isCorrect 2 := C
  have h2 := h; clear h
  refine b_sub (lv' := [(0, .ref (ad 0)), (1, .int a1)]) [0, 1] rfl ?_
  refine b_iload_n C 1 dX2_isCorrect_0 rfl rfl ?_
  refine b_if_lt (tgt := 25) C dX2_isCorrect_1 (by decide) (fun c3 => ?_) (fun c3 => ?_)
  · have h4 := ipos h2 c3; clear h2
    refine b_iconst (v := (0 : Int32)) C dX2_isCorrect_25 (by decide) ?_
    obtain ⟨rfl, rfl⟩ := so2 h4
    exact b_zret C dX2_isCorrect_26 hr rfl
  have h5 := ineg h2 c3; clear h2
  refine b_iload_n C 1 dX2_isCorrect_4 rfl rfl ?_
  refine b_aload_n C 0 dX2_isCorrect_5 rfl rfl ?_
  refine gX2_53 C X dX2_isCorrect_6 ?_
  refine b_icmp_ge (tgt := 25) C dX2_isCorrect_9 (by decide) (fun c6 => ?_) (fun c6 => ?_)
  · have h7 := ipos h5 c6; clear h5
    refine b_iconst (v := (0 : Int32)) C dX2_isCorrect_25 (by decide) ?_
    obtain ⟨rfl, rfl⟩ := so2 h7
    exact b_zret C dX2_isCorrect_26 hr rfl
  have h8 := ineg h5 c6; clear h5
  refine b_aload_n C 0 dX2_isCorrect_12 rfl rfl ?_
  refine gX2_34 C X dX2_isCorrect_13 ?_
  refine b_iload_n C 1 dX2_isCorrect_16 rfl rfl ?_
  obtain ⟨g10, h9⟩ := gdn h8; clear h8
  refine lX_10 C X g10 dX2_isCorrect_17 ?_
  refine b_if_ne (tgt := 25) C dX2_isCorrect_18 (by decide) (fun c11 => ?_) (fun c11 => ?_)
  · have h12 := ineg h9 c11; clear h9
    refine b_iconst (v := (0 : Int32)) C dX2_isCorrect_25 (by decide) ?_
    obtain ⟨rfl, rfl⟩ := so2 h12
    exact b_zret C dX2_isCorrect_26 hr rfl
  have h13 := ipos h9 c11; clear h9
  refine b_iconst (v := (1 : Int32)) C dX2_isCorrect_21 (by decide) ?_
  refine b_goto (tgt := 26) C dX2_isCorrect_22 (by decide) ?_
  obtain ⟨rfl, rfl⟩ := so2 h13
  exact b_zret C dX2_isCorrect_26 hr rfl
def rmX0_end : Room := { frames := 0, cells := 0, slots := 0, locals := 0 }
def fX0_end (σ : St) (b : Nat) (a1 : Int32) (a2 : Int32) (a3 : Int32) : Option (Int64 × St) :=
  if isT b = false then none else
  lt1 ((a1 * (10 : Int32)) + a2) fun x6 =>
  if x6 < (0 : Int32) then (
  some ((0 : Int64), σ))
  else (
  if isL (b + 1) = false then none else
  if (Int32.ofNat (ln (b + 1))) ≤ x6 then (
  some ((0 : Int64), σ))
  else (
  if isL (b + 2) = false then none else
  if x6 < (Int32.ofNat (ln (b + 2))) then (
  if a3 = (0 : Int32) then (
  if (x6 < 0 ∨ ln (b + 1) ≤ (x6).toNatClampNeg) then none else
  some ((gG σ (la (b + 1)) (x6).toNatClampNeg), σ))
  else (
  if (x6 < 0 ∨ ln (b + 2) ≤ (x6).toNatClampNeg) then none else
  some ((gG σ (la (b + 2)) (x6).toNatClampNeg), σ)))
  else (
  some ((0 : Int64), σ))))
theorem ctX0_end {l : Launch} {ad : Nat → Nat} {ca : Nat → ClassId} {σ : St} {b : Nat} {a1 : Int32} {a2 : Int32} {a3 : Int32} {rf : Int64} {σf : St} (h : fX0_end σ b a1 a2 a3 = some (rf, σf)) : Cw l yX0_end cX0_end 5 (some .long) rmX0_end [.ref (ad b), .int a1, .int a2, .int a3] (wX ad ca) (tyX ca) σ (some (.long rf)) σf := by
  obtain ⟨hb0, h5⟩ := gdn h; clear h
  have hb : isT b = true := nb hb0
  refine Cw_of (by decide) (sameX ad ca) (Nat.le_of_ble_eq_true rfl) ?_
  intro p e s m args below meth c D A C X hr
  replace C : Cb p s m args meth c RX0 cX0_end 5 := C
  refine b_sub (lv' := [(0, .ref (ad b)), (1, .int a1), (2, .int a2), (3, .int a3)]) [0, 1, 2, 3] rfl ?_
  refine b_iload_n C 1 dX0_end_0 rfl rfl ?_
  refine b_aload_n C 0 dX0_end_1 rfl rfl ?_
  refine gX0_7 C X hb dX0_end_2 ?_
  refine b_imul C dX0_end_5 ?_
  refine b_iload_n C 2 dX0_end_6 rfl rfl ?_
  refine b_iadd C dX0_end_7 ?_
  obtain ⟨x6, ex6, h7⟩ := lt1_inv h5; clear h5
  refine b_nmI ex6 ?_
  refine b_istore (lv' := [(4, .int x6), (0, .ref (ad b)), (1, .int a1), (2, .int a2), (3, .int a3)]) C dX0_end_8 (by decide) rfl ?_
  refine b_iload C 0 dX0_end_10 rfl ?_
  refine b_if_lt (tgt := 35) C dX0_end_12 (by decide) (fun c8 => ?_) (fun c8 => ?_)
  · have h9 := ipos h7 c8; clear h7
    refine b_lconst (v := (0 : Int64)) C dX0_end_35 (by decide) ?_
    obtain ⟨rfl, rfl⟩ := so2 h9
    exact b_lret C dX0_end_36 hr
  have h10 := ineg h7 c8; clear h7
  refine b_iload C 0 dX0_end_15 rfl ?_
  refine b_aload_n C 1 dX0_end_17 rfl rfl ?_
  refine gX0_13 C X hb dX0_end_18 ?_
  obtain ⟨g12, h11⟩ := gdn h10; clear h10
  refine nX_t C X (nb g12) dX0_end_21 ?_
  refine b_icmp_ge (tgt := 35) C dX0_end_22 (by decide) (fun c13 => ?_) (fun c13 => ?_)
  · have h14 := ipos h11 c13; clear h11
    refine b_lconst (v := (0 : Int64)) C dX0_end_35 (by decide) ?_
    obtain ⟨rfl, rfl⟩ := so2 h14
    exact b_lret C dX0_end_36 hr
  have h15 := ineg h11 c13; clear h11
  refine b_iload C 0 dX0_end_25 rfl ?_
  refine b_aload_n C 1 dX0_end_27 rfl rfl ?_
  refine gX0_17 C X hb dX0_end_28 ?_
  obtain ⟨g17, h16⟩ := gdn h15; clear h15
  refine nX_t C X (nb g17) dX0_end_31 ?_
  refine b_icmp_lt (tgt := 37) C dX0_end_32 (by decide) (fun c18 => ?_) (fun c18 => ?_)
  · have h19 := ipos h16 c18; clear h16
    refine b_iload_n C 4 dX0_end_37 rfl rfl ?_
    refine b_if_eq (tgt := 51) C dX0_end_38 (by decide) (fun c21 => ?_) (fun c21 => ?_)
    · have h22 := ipos h19 c21; clear h19
      refine b_aload_n C 1 dX0_end_51 rfl rfl ?_
      refine gX0_13 C X hb dX0_end_52 ?_
      refine b_iload C 0 dX0_end_55 rfl ?_
      obtain ⟨g25, h24⟩ := gdn h22; clear h22
      refine lX_t C X (nb g12) g25 dX0_end_57 ?_
      obtain ⟨rfl, rfl⟩ := so2 h24
      exact b_lret C dX0_end_58 hr
    have h23 := ineg h19 c21; clear h19
    refine b_aload_n C 1 dX0_end_41 rfl rfl ?_
    refine gX0_17 C X hb dX0_end_42 ?_
    refine b_iload C 0 dX0_end_45 rfl ?_
    obtain ⟨g27, h26⟩ := gdn h23; clear h23
    refine lX_t C X (nb g17) g27 dX0_end_47 ?_
    refine b_goto (tgt := 58) C dX0_end_48 (by decide) ?_
    obtain ⟨rfl, rfl⟩ := so2 h26
    exact b_lret C dX0_end_58 hr
  have h20 := ineg h16 c18; clear h16
  refine b_lconst (v := (0 : Int64)) C dX0_end_35 (by decide) ?_
  obtain ⟨rfl, rfl⟩ := so2 h20
  exact b_lret C dX0_end_36 hr
def rmX2_haveSameValue : Room := { frames := 1, cells := 0, slots := 0, locals := 24 }
def fX2_haveSameValue (σ : St) (a1 : Int32) (a2 : Int32) : Option (Int32 × St) :=
  bd2 (fX2_isCorrect σ a1) fun r6 σ5 =>
  if r6 = (0 : Int32) then (
  some ((0 : Int32), σ5))
  else (
  bd2 (fX2_isCorrect σ5 a2) fun r12 σ11 =>
  if r12 = (0 : Int32) then (
  some ((0 : Int32), σ11))
  else (
  bd2 (fX0_end σ11 3 (gI σ11 3) a1 (0 : Int32)) fun r18 σ17 =>
  bd2 (fX0_end σ17 3 (gI σ17 3) a2 (0 : Int32)) fun r21 σ20 =>
  if r18 = r21 then (
  bd2 (fX0_end σ20 3 (gI σ20 3) a1 (1 : Int32)) fun r27 σ26 =>
  bd2 (fX0_end σ26 3 (gI σ26 3) a2 (1 : Int32)) fun r30 σ29 =>
  if r27 = r30 then (
  some ((1 : Int32), σ29))
  else (
  some ((0 : Int32), σ29)))
  else (
  some ((0 : Int32), σ20))))
theorem ctX2_haveSameValue {l : Launch} {ad : Nat → Nat} {ca : Nat → ClassId} {σ : St} {a1 : Int32} {a2 : Int32} {rf : Int32} {σf : St} (h : fX2_haveSameValue σ a1 a2 = some (rf, σf)) : Cw l yX2_haveSameValue cX2_haveSameValue 3 (some .boolean) rmX2_haveSameValue [.ref (ad 0), .int a1, .int a2] (wX ad ca) (tyX ca) σ (some (.int rf)) σf := by
  refine Cw_of (by decide) (sameX ad ca) (Nat.le_of_ble_eq_true rfl) ?_
  intro p e s m args below meth c D A C X hr
  replace C : Cb p s m args meth c RX2 cX2_haveSameValue 3 := C
  have h3 := h; clear h
  refine b_sub (lv' := [(0, .ref (ad 0)), (1, .int a1), (2, .int a2)]) [0, 1, 2] rfl ?_
  refine b_aload_n C 0 dX2_haveSameValue_0 rfl rfl ?_
  refine b_iload_n C 1 dX2_haveSameValue_1 rfl rfl ?_
  obtain ⟨r6, σ5, ec4, h4⟩ := bd2_inv h3; clear h3
  refine b_callWi (rest := []) C (sameX ad ca) X dX2_haveSameValue_2 (ctX2_isCorrect ec4) mf_X2_isCorrect mi_X2_isCorrect kl_X2_125 0 rfl rfl rfl rfl ⟨rfl, rfl⟩ ⟨Nat.le_of_ble_eq_true rfl, Nat.le_of_ble_eq_true rfl⟩ ⟨Nat.zero_le _, Nat.zero_le _⟩ rfl (Nat.le_of_ble_eq_true rfl) ?_
  refine b_if_eq (tgt := 80) C dX2_haveSameValue_5 (by decide) (fun c7 => ?_) (fun c7 => ?_)
  · have h8 := ipos h4 c7; clear h4
    refine b_iconst (v := (0 : Int32)) C dX2_haveSameValue_80 (by decide) ?_
    obtain ⟨rfl, rfl⟩ := so2 h8
    exact b_zret C dX2_haveSameValue_81 hr rfl
  have h9 := ineg h4 c7; clear h4
  refine b_aload_n C 0 dX2_haveSameValue_8 rfl rfl ?_
  refine b_iload_n C 2 dX2_haveSameValue_9 rfl rfl ?_
  obtain ⟨r12, σ11, ec10, h10⟩ := bd2_inv h9; clear h9
  refine b_callWi (rest := []) C (sameX ad ca) X dX2_haveSameValue_10 (ctX2_isCorrect ec10) mf_X2_isCorrect mi_X2_isCorrect kl_X2_125 0 rfl rfl rfl rfl ⟨rfl, rfl⟩ ⟨Nat.le_of_ble_eq_true rfl, Nat.le_of_ble_eq_true rfl⟩ ⟨Nat.zero_le _, Nat.zero_le _⟩ rfl (Nat.le_of_ble_eq_true rfl) ?_
  refine b_if_eq (tgt := 80) C dX2_haveSameValue_13 (by decide) (fun c13 => ?_) (fun c13 => ?_)
  · have h14 := ipos h10 c13; clear h10
    refine b_iconst (v := (0 : Int32)) C dX2_haveSameValue_80 (by decide) ?_
    obtain ⟨rfl, rfl⟩ := so2 h14
    exact b_zret C dX2_haveSameValue_81 hr rfl
  have h15 := ineg h10 c13; clear h10
  refine b_aload_n C 0 dX2_haveSameValue_16 rfl rfl ?_
  refine gX2_23 C X dX2_haveSameValue_17 ?_
  refine b_aload_n C 0 dX2_haveSameValue_20 rfl rfl ?_
  refine gX2_72 C X dX2_haveSameValue_21 ?_
  refine b_iload_n C 1 dX2_haveSameValue_24 rfl rfl ?_
  refine b_iconst (v := (0 : Int32)) C dX2_haveSameValue_25 (by decide) ?_
  obtain ⟨r18, σ17, ec16, h16⟩ := bd2_inv h15; clear h15
  refine b_callWl (rest := []) C (sameX ad ca) X dX2_haveSameValue_26 (ctX0_end ec16) mf_X0_end mi_X0_end kl_X2_130 3 rfl rfl rfl rfl ⟨rfl, rfl⟩ ⟨Nat.le_of_ble_eq_true rfl, Nat.le_of_ble_eq_true rfl⟩ ⟨Nat.zero_le _, Nat.zero_le _⟩ rfl (Nat.le_of_ble_eq_true rfl) ?_
  refine b_aload_n C 0 dX2_haveSameValue_29 rfl rfl ?_
  refine gX2_23 C X dX2_haveSameValue_30 ?_
  refine b_aload_n C 0 dX2_haveSameValue_33 rfl rfl ?_
  refine gX2_72 C X dX2_haveSameValue_34 ?_
  refine b_iload_n C 2 dX2_haveSameValue_37 rfl rfl ?_
  refine b_iconst (v := (0 : Int32)) C dX2_haveSameValue_38 (by decide) ?_
  obtain ⟨r21, σ20, ec19, h19⟩ := bd2_inv h16; clear h16
  refine b_callWl (rest := [.long r18]) C (sameX ad ca) X dX2_haveSameValue_39 (ctX0_end ec19) mf_X0_end mi_X0_end kl_X2_130 3 rfl rfl rfl rfl ⟨rfl, rfl⟩ ⟨Nat.le_of_ble_eq_true rfl, Nat.le_of_ble_eq_true rfl⟩ ⟨Nat.zero_le _, Nat.zero_le _⟩ rfl (Nat.le_of_ble_eq_true rfl) ?_
  refine b_lc_ne (tgt := 80) C dX2_haveSameValue_42 dX2_haveSameValue_43 (by decide) (fun c22 => ?_) (fun c22 => ?_)
  · have h23 := ineg h19 c22; clear h19
    refine b_iconst (v := (0 : Int32)) C dX2_haveSameValue_80 (by decide) ?_
    obtain ⟨rfl, rfl⟩ := so2 h23
    exact b_zret C dX2_haveSameValue_81 hr rfl
  have h24 := ipos h19 c22; clear h19
  refine b_aload_n C 0 dX2_haveSameValue_46 rfl rfl ?_
  refine gX2_23 C X dX2_haveSameValue_47 ?_
  refine b_aload_n C 0 dX2_haveSameValue_50 rfl rfl ?_
  refine gX2_72 C X dX2_haveSameValue_51 ?_
  refine b_iload_n C 1 dX2_haveSameValue_54 rfl rfl ?_
  refine b_iconst (v := (1 : Int32)) C dX2_haveSameValue_55 (by decide) ?_
  obtain ⟨r27, σ26, ec25, h25⟩ := bd2_inv h24; clear h24
  refine b_callWl (rest := []) C (sameX ad ca) X dX2_haveSameValue_56 (ctX0_end ec25) mf_X0_end mi_X0_end kl_X2_130 3 rfl rfl rfl rfl ⟨rfl, rfl⟩ ⟨Nat.le_of_ble_eq_true rfl, Nat.le_of_ble_eq_true rfl⟩ ⟨Nat.zero_le _, Nat.zero_le _⟩ rfl (Nat.le_of_ble_eq_true rfl) ?_
  refine b_aload_n C 0 dX2_haveSameValue_59 rfl rfl ?_
  refine gX2_23 C X dX2_haveSameValue_60 ?_
  refine b_aload_n C 0 dX2_haveSameValue_63 rfl rfl ?_
  refine gX2_72 C X dX2_haveSameValue_64 ?_
  refine b_iload_n C 2 dX2_haveSameValue_67 rfl rfl ?_
  refine b_iconst (v := (1 : Int32)) C dX2_haveSameValue_68 (by decide) ?_
  obtain ⟨r30, σ29, ec28, h28⟩ := bd2_inv h25; clear h25
  refine b_callWl (rest := [.long r27]) C (sameX ad ca) X dX2_haveSameValue_69 (ctX0_end ec28) mf_X0_end mi_X0_end kl_X2_130 3 rfl rfl rfl rfl ⟨rfl, rfl⟩ ⟨Nat.le_of_ble_eq_true rfl, Nat.le_of_ble_eq_true rfl⟩ ⟨Nat.zero_le _, Nat.zero_le _⟩ rfl (Nat.le_of_ble_eq_true rfl) ?_
  refine b_lc_ne (tgt := 80) C dX2_haveSameValue_72 dX2_haveSameValue_73 (by decide) (fun c31 => ?_) (fun c31 => ?_)
  · have h32 := ineg h28 c31; clear h28
    refine b_iconst (v := (0 : Int32)) C dX2_haveSameValue_80 (by decide) ?_
    obtain ⟨rfl, rfl⟩ := so2 h32
    exact b_zret C dX2_haveSameValue_81 hr rfl
  have h33 := ipos h28 c31; clear h28
  refine b_iconst (v := (1 : Int32)) C dX2_haveSameValue_76 (by decide) ?_
  refine b_goto (tgt := 81) C dX2_haveSameValue_77 (by decide) ?_
  obtain ⟨rfl, rfl⟩ := so2 h33
  exact b_zret C dX2_haveSameValue_81 hr rfl
def rmX2_isFirstHolder : Room := { frames := 2, cells := 0, slots := 0, locals := 46 }
def fX2_isFirstHolder_2b (N : Nat) (q24 : St → Option (Int32 × St)) (q2 : St → Int32 → Int32 → Option (Int32 × St)) (σ5 : St) (x3 : Int32) (x4 : Int32) : Option (Int32 × St) :=
  if x3 ≤ x4 then (
  q24 σ5)
  else (
  bd2 (fX2_haveSameValue σ5 x4 x3) fun r12 σ11 =>
  if r12 = (0 : Int32) then (
  lt1 (x4 + (1 : Int32)) fun x16 =>
  q2 σ11 x3 x16)
  else (
  some ((0 : Int32), σ11)))
def fX2_isFirstHolder_2 (N : Nat) (q24 : St → Option (Int32 × St)) : Nat → St → Int32 → Int32 → Option (Int32 × St)
  | 0, _, _, _ => none
  | n + 1, σ, x3, x4 => fX2_isFirstHolder_2b N q24 (fX2_isFirstHolder_2 N q24 n) σ x3 x4
def fX2_isFirstHolder (N : Nat) (σ : St) (a1 : Int32) : Option (Int32 × St) :=
  fX2_isFirstHolder_2 N (fun σ18 =>
 some ((1 : Int32), σ18)) N σ a1 (0 : Int32)
theorem wX2_isFirstHolder_2 {l : Launch} {p : Program} {e : Env} {s : State} {m : MethodId} {args : Array Value} {below : List Frame} {meth : Method} {c : Code} {D : va_G} {A : Nat → Prop} {ad : Nat → Nat} {ca : Nat → ClassId} {rf : Int32} {σf : St} (C : Cb p s m args meth c RX2 cX2_isFirstHolder 3) (X : Cx s D A (wX ad ca) (tyX ca)) (hr : meth.sig.returnType = (some .boolean)) {N : Nat} {q24 : St → Option (Int32 × St)} (hq24 : ∀ (σ : St), q24 σ = some (rf, σf) → bW p l e rmX2_isFirstHolder s m args below meth c 0 0 (MQ below (Qw D (wX ad ca) σf (some (.int rf)) A) args s 0 0 A) 3 (wd D A (wX ad ca) s σ) 24 [] []) : ∀ n : Nat, ∀ (σ : St) (y0 : Int32) (y1 : Int32), fX2_isFirstHolder_2 N q24 n σ y0 y1 = some (rf, σf) → bW p l e rmX2_isFirstHolder s m args below meth c 0 0 (MQ below (Qw D (wX ad ca) σf (some (.int rf)) A) args s 0 0 A) 3 (wd D A (wX ad ca) s σ) 2 [(0, .ref (ad 0)), (1, .int y0), (2, .int y1)] [] := by
  intro n
  induction n with
  | zero => intro σ5 x3 x4 h6; exact nn h6
  | succ n hq2 =>
    intro σ5 x3 x4 h6
    replace h6 : fX2_isFirstHolder_2b N q24 (fX2_isFirstHolder_2 N q24 n) σ5 x3 x4 = some (rf, σf) := h6
    refine b_iload_n C 2 dX2_isFirstHolder_2 rfl rfl ?_
    refine b_iload_n C 1 dX2_isFirstHolder_3 rfl rfl ?_
    refine b_icmp_ge (tgt := 24) C dX2_isFirstHolder_4 (by decide) (fun c7 => ?_) (fun c7 => ?_)
    · have h8 := ipos h6 c7; clear h6
      exact b_sub [] rfl (hq24 _ h8)
    have h9 := ineg h6 c7; clear h6
    refine b_aload_n C 0 dX2_isFirstHolder_7 rfl rfl ?_
    refine b_iload_n C 2 dX2_isFirstHolder_8 rfl rfl ?_
    refine b_iload_n C 1 dX2_isFirstHolder_9 rfl rfl ?_
    obtain ⟨r12, σ11, ec10, h10⟩ := bd2_inv h9; clear h9
    refine b_callWi (rest := []) C (sameX ad ca) X dX2_isFirstHolder_10 (ctX2_haveSameValue ec10) mf_X2_haveSameValue mi_X2_haveSameValue kl_X2_209 0 rfl rfl rfl rfl ⟨rfl, rfl⟩ ⟨Nat.le_of_ble_eq_true rfl, Nat.le_of_ble_eq_true rfl⟩ ⟨Nat.zero_le _, Nat.zero_le _⟩ rfl (Nat.le_of_ble_eq_true rfl) ?_
    refine b_if_eq (tgt := 18) C dX2_isFirstHolder_13 (by decide) (fun c13 => ?_) (fun c13 => ?_)
    · have h14 := ipos h10 c13; clear h10
      obtain ⟨x16, ex16, h17⟩ := lt1_inv h14; clear h14
      refine b_iinc (v := x16) (lv' := [(2, .int x16), (0, .ref (ad 0)), (1, .int x3)]) C 2 dX2_isFirstHolder_18 rfl (by rw [ex16]; rfl) (by decide) rfl ?_
      refine b_goto (tgt := 2) C dX2_isFirstHolder_21 (by decide) ?_
      exact b_sub [1, 2, 0] rfl (hq2 _ _ _ h17)
    have h15 := ineg h10 c13; clear h10
    refine b_iconst (v := (0 : Int32)) C dX2_isFirstHolder_16 (by decide) ?_
    obtain ⟨rfl, rfl⟩ := so2 h15
    exact b_zret C dX2_isFirstHolder_17 hr rfl
theorem ctX2_isFirstHolder {l : Launch} {ad : Nat → Nat} {ca : Nat → ClassId} {N : Nat} {σ : St} {a1 : Int32} {rf : Int32} {σf : St} (h : fX2_isFirstHolder N σ a1 = some (rf, σf)) : Cw l yX2_isFirstHolder cX2_isFirstHolder 3 (some .boolean) rmX2_isFirstHolder [.ref (ad 0), .int a1] (wX ad ca) (tyX ca) σ (some (.int rf)) σf := by
  refine Cw_of (by decide) (sameX ad ca) (Nat.le_of_ble_eq_true rfl) ?_
  intro p e s m args below meth c D A C X hr
  replace C : Cb p s m args meth c RX2 cX2_isFirstHolder 3 := C
  have h2 := h; clear h
  refine b_sub (lv' := [(0, .ref (ad 0)), (1, .int a1)]) [0, 1] rfl ?_
  refine b_iconst (v := (0 : Int32)) C dX2_isFirstHolder_0 (by decide) ?_
  refine b_istore_n (lv' := [(2, .int (0 : Int32)), (0, .ref (ad 0)), (1, .int a1)]) C dX2_isFirstHolder_1 rfl (by decide) rfl ?_
  refine b_sub [1, 2, 0] rfl (wX2_isFirstHolder_2 C X hr (fun σ18 h19 => ?_) _ _ _ _ h2)
  refine b_iconst (v := (1 : Int32)) C dX2_isFirstHolder_24 (by decide) ?_
  obtain ⟨rfl, rfl⟩ := so2 h19
  exact b_zret C dX2_isFirstHolder_25 hr rfl
def rmX2_differentValues : Room := { frames := 3, cells := 0, slots := 0, locals := 68 }
def fX2_differentValues_4b (N : Nat) (q37 : St → Int32 → Option (Int32 × St)) (q4 : St → Int32 → Int32 → Option (Int32 × St)) (σ4 : St) (x2 : Int32) (x3 : Int32) : Option (Int32 × St) :=
  if (gI σ4 0) ≤ x3 then (
  q37 σ4 x2)
  else (
  bd2 (fX2_isCorrect σ4 x3) fun r11 σ10 =>
  if r11 = (0 : Int32) then (
  lt1 (x3 + (1 : Int32)) fun x15 =>
  q4 σ10 x2 x15)
  else (
  bd2 (fX2_isFirstHolder N σ10 x3) fun r19 σ18 =>
  if r19 = (0 : Int32) then (
  lt1 (x3 + (1 : Int32)) fun x23 =>
  q4 σ18 x2 x23)
  else (
  lt1 (x2 + (1 : Int32)) fun x25 =>
  lt1 (x3 + (1 : Int32)) fun x27 =>
  q4 σ18 x25 x27)))
def fX2_differentValues_4 (N : Nat) (q37 : St → Int32 → Option (Int32 × St)) : Nat → St → Int32 → Int32 → Option (Int32 × St)
  | 0, _, _, _ => none
  | n + 1, σ, x2, x3 => fX2_differentValues_4b N q37 (fX2_differentValues_4 N q37 n) σ x2 x3
def fX2_differentValues (N : Nat) (σ : St) : Option (Int32 × St) :=
  fX2_differentValues_4 N (fun σ30 x29 =>
 some (x29, σ30)) N σ (0 : Int32) (0 : Int32)
theorem wX2_differentValues_4 {l : Launch} {p : Program} {e : Env} {s : State} {m : MethodId} {args : Array Value} {below : List Frame} {meth : Method} {c : Code} {D : va_G} {A : Nat → Prop} {ad : Nat → Nat} {ca : Nat → ClassId} {rf : Int32} {σf : St} (C : Cb p s m args meth c RX2 cX2_differentValues 3) (X : Cx s D A (wX ad ca) (tyX ca)) (hr : meth.sig.returnType = (some .int)) {N : Nat} {q37 : St → Int32 → Option (Int32 × St)} (hq37 : ∀ (σ : St) (y0 : Int32), q37 σ y0 = some (rf, σf) → bW p l e rmX2_differentValues s m args below meth c 0 0 (MQ below (Qw D (wX ad ca) σf (some (.int rf)) A) args s 0 0 A) 3 (wd D A (wX ad ca) s σ) 37 [(1, .int y0)] []) : ∀ n : Nat, ∀ (σ : St) (y0 : Int32) (y1 : Int32), fX2_differentValues_4 N q37 n σ y0 y1 = some (rf, σf) → bW p l e rmX2_differentValues s m args below meth c 0 0 (MQ below (Qw D (wX ad ca) σf (some (.int rf)) A) args s 0 0 A) 3 (wd D A (wX ad ca) s σ) 4 [(0, .ref (ad 0)), (1, .int y0), (2, .int y1)] [] := by
  intro n
  induction n with
  | zero => intro σ4 x2 x3 h5; exact nn h5
  | succ n hq4 =>
    intro σ4 x2 x3 h5
    replace h5 : fX2_differentValues_4b N q37 (fX2_differentValues_4 N q37 n) σ4 x2 x3 = some (rf, σf) := h5
    refine b_iload_n C 2 dX2_differentValues_4 rfl rfl ?_
    refine b_aload_n C 0 dX2_differentValues_5 rfl rfl ?_
    refine gX2_53 C X dX2_differentValues_6 ?_
    refine b_icmp_ge (tgt := 37) C dX2_differentValues_9 (by decide) (fun c6 => ?_) (fun c6 => ?_)
    · have h7 := ipos h5 c6; clear h5
      exact b_sub [1] rfl (hq37 _ _ h7)
    have h8 := ineg h5 c6; clear h5
    refine b_aload_n C 0 dX2_differentValues_12 rfl rfl ?_
    refine b_iload_n C 2 dX2_differentValues_13 rfl rfl ?_
    obtain ⟨r11, σ10, ec9, h9⟩ := bd2_inv h8; clear h8
    refine b_callWi (rest := []) C (sameX ad ca) X dX2_differentValues_14 (ctX2_isCorrect ec9) mf_X2_isCorrect mi_X2_isCorrect kl_X2_125 0 rfl rfl rfl rfl ⟨rfl, rfl⟩ ⟨Nat.le_of_ble_eq_true rfl, Nat.le_of_ble_eq_true rfl⟩ ⟨Nat.zero_le _, Nat.zero_le _⟩ rfl (Nat.le_of_ble_eq_true rfl) ?_
    refine b_if_eq (tgt := 31) C dX2_differentValues_17 (by decide) (fun c12 => ?_) (fun c12 => ?_)
    · have h13 := ipos h9 c12; clear h9
      obtain ⟨x15, ex15, h16⟩ := lt1_inv h13; clear h13
      refine b_iinc (v := x15) (lv' := [(2, .int x15), (0, .ref (ad 0)), (1, .int x2)]) C 2 dX2_differentValues_31 rfl (by rw [ex15]; rfl) (by decide) rfl ?_
      refine b_goto (tgt := 4) C dX2_differentValues_34 (by decide) ?_
      exact b_sub [1, 2, 0] rfl (hq4 _ _ _ h16)
    have h14 := ineg h9 c12; clear h9
    refine b_aload_n C 0 dX2_differentValues_20 rfl rfl ?_
    refine b_iload_n C 2 dX2_differentValues_21 rfl rfl ?_
    obtain ⟨r19, σ18, ec17, h17⟩ := bd2_inv h14; clear h14
    refine b_callWi (rest := []) C (sameX ad ca) X dX2_differentValues_22 (ctX2_isFirstHolder ec17) mf_X2_isFirstHolder mi_X2_isFirstHolder kl_X2_212 0 rfl rfl rfl rfl ⟨rfl, rfl⟩ ⟨Nat.le_of_ble_eq_true rfl, Nat.le_of_ble_eq_true rfl⟩ ⟨Nat.zero_le _, Nat.zero_le _⟩ rfl (Nat.le_of_ble_eq_true rfl) ?_
    refine b_if_eq (tgt := 31) C dX2_differentValues_25 (by decide) (fun c20 => ?_) (fun c20 => ?_)
    · have h21 := ipos h17 c20; clear h17
      obtain ⟨x23, ex23, h24⟩ := lt1_inv h21; clear h21
      refine b_iinc (v := x23) (lv' := [(2, .int x23), (0, .ref (ad 0)), (1, .int x2)]) C 2 dX2_differentValues_31 rfl (by rw [ex23]; rfl) (by decide) rfl ?_
      refine b_goto (tgt := 4) C dX2_differentValues_34 (by decide) ?_
      exact b_sub [1, 2, 0] rfl (hq4 _ _ _ h24)
    have h22 := ineg h17 c20; clear h17
    obtain ⟨x25, ex25, h26⟩ := lt1_inv h22; clear h22
    refine b_iinc (v := x25) (lv' := [(1, .int x25), (0, .ref (ad 0)), (2, .int x3)]) C 1 dX2_differentValues_28 rfl (by rw [ex25]; rfl) (by decide) rfl ?_
    obtain ⟨x27, ex27, h28⟩ := lt1_inv h26; clear h26
    refine b_iinc (v := x27) (lv' := [(2, .int x27), (1, .int x25), (0, .ref (ad 0))]) C 2 dX2_differentValues_31 rfl (by rw [ex27]; rfl) (by decide) rfl ?_
    refine b_goto (tgt := 4) C dX2_differentValues_34 (by decide) ?_
    exact b_sub [2, 1, 0] rfl (hq4 _ _ _ h28)
theorem ctX2_differentValues {l : Launch} {ad : Nat → Nat} {ca : Nat → ClassId} {N : Nat} {σ : St} {rf : Int32} {σf : St} (h : fX2_differentValues N σ = some (rf, σf)) : Cw l yX2_differentValues cX2_differentValues 3 (some .int) rmX2_differentValues [.ref (ad 0)] (wX ad ca) (tyX ca) σ (some (.int rf)) σf := by
  refine Cw_of (by decide) (sameX ad ca) (Nat.le_of_ble_eq_true rfl) ?_
  intro p e s m args below meth c D A C X hr
  replace C : Cb p s m args meth c RX2 cX2_differentValues 3 := C
  have h1 := h; clear h
  refine b_sub (lv' := [(0, .ref (ad 0))]) [0] rfl ?_
  refine b_iconst (v := (0 : Int32)) C dX2_differentValues_0 (by decide) ?_
  refine b_istore_n (lv' := [(1, .int (0 : Int32)), (0, .ref (ad 0))]) C dX2_differentValues_1 rfl (by decide) rfl ?_
  refine b_iconst (v := (0 : Int32)) C dX2_differentValues_2 (by decide) ?_
  refine b_istore_n (lv' := [(2, .int (0 : Int32)), (1, .int (0 : Int32)), (0, .ref (ad 0))]) C dX2_differentValues_3 rfl (by decide) rfl ?_
  refine b_sub [2, 1, 0] rfl (wX2_differentValues_4 C X hr (fun σ30 x29 h31 => ?_) _ _ _ _ h1)
  refine b_iload_n C 0 dX2_differentValues_37 rfl rfl ?_
  obtain ⟨rfl, rfl⟩ := so2 h31
  exact b_iret C dX2_differentValues_38 hr
def rmX2_correctSet : Room := { frames := 0, cells := 0, slots := 0, locals := 0 }
def fX2_correctSet_4b (N : Nat) (q33 : St → Int32 → Option (Int32 × St)) (q4 : St → Int32 → Int32 → Option (Int32 × St)) (σ4 : St) (x2 : Int32) (x3 : Int32) : Option (Int32 × St) :=
  if (gI σ4 0) ≤ x3 then (
  q33 σ4 x2)
  else (
  if (x3 < 0 ∨ 10 ≤ (x3).toNatClampNeg) then none else
  if (gF σ4 2 (x3).toNatClampNeg) = (0 : Int32) then (
  lt1 (x2 ||| ((1 : Int32) <<< (x3 &&& 31))) fun x16 =>
  lt1 (x3 + (1 : Int32)) fun x18 =>
  q4 σ4 x16 x18)
  else (
  lt1 (x3 + (1 : Int32)) fun x14 =>
  q4 σ4 x2 x14))
def fX2_correctSet_4 (N : Nat) (q33 : St → Int32 → Option (Int32 × St)) : Nat → St → Int32 → Int32 → Option (Int32 × St)
  | 0, _, _, _ => none
  | n + 1, σ, x2, x3 => fX2_correctSet_4b N q33 (fX2_correctSet_4 N q33 n) σ x2 x3
def fX2_correctSet (N : Nat) (σ : St) : Option (Int32 × St) :=
  fX2_correctSet_4 N (fun σ21 x20 =>
 some (x20, σ21)) N σ (0 : Int32) (0 : Int32)
theorem wX2_correctSet_4 {l : Launch} {p : Program} {e : Env} {s : State} {m : MethodId} {args : Array Value} {below : List Frame} {meth : Method} {c : Code} {D : va_G} {A : Nat → Prop} {ad : Nat → Nat} {ca : Nat → ClassId} {rf : Int32} {σf : St} (C : Cb p s m args meth c RX2 cX2_correctSet 3) (X : Cx s D A (wX ad ca) (tyX ca)) (hr : meth.sig.returnType = (some .int)) {N : Nat} {q33 : St → Int32 → Option (Int32 × St)} (hq33 : ∀ (σ : St) (y0 : Int32), q33 σ y0 = some (rf, σf) → bW p l e rmX2_correctSet s m args below meth c 0 0 (MQ below (Qw D (wX ad ca) σf (some (.int rf)) A) args s 0 0 A) 3 (wd D A (wX ad ca) s σ) 33 [(1, .int y0)] []) : ∀ n : Nat, ∀ (σ : St) (y0 : Int32) (y1 : Int32), fX2_correctSet_4 N q33 n σ y0 y1 = some (rf, σf) → bW p l e rmX2_correctSet s m args below meth c 0 0 (MQ below (Qw D (wX ad ca) σf (some (.int rf)) A) args s 0 0 A) 3 (wd D A (wX ad ca) s σ) 4 [(0, .ref (ad 0)), (1, .int y0), (2, .int y1)] [] := by
  intro n
  induction n with
  | zero => intro σ4 x2 x3 h5; exact nn h5
  | succ n hq4 =>
    intro σ4 x2 x3 h5
    replace h5 : fX2_correctSet_4b N q33 (fX2_correctSet_4 N q33 n) σ4 x2 x3 = some (rf, σf) := h5
    refine b_iload_n C 2 dX2_correctSet_4 rfl rfl ?_
    refine b_aload_n C 0 dX2_correctSet_5 rfl rfl ?_
    refine gX2_53 C X dX2_correctSet_6 ?_
    refine b_icmp_ge (tgt := 33) C dX2_correctSet_9 (by decide) (fun c6 => ?_) (fun c6 => ?_)
    · have h7 := ipos h5 c6; clear h5
      exact b_sub [1] rfl (hq33 _ _ h7)
    have h8 := ineg h5 c6; clear h5
    refine b_aload_n C 0 dX2_correctSet_12 rfl rfl ?_
    refine gX2_34 C X dX2_correctSet_13 ?_
    refine b_iload_n C 2 dX2_correctSet_16 rfl rfl ?_
    obtain ⟨g10, h9⟩ := gdn h8; clear h8
    refine lX_10 C X g10 dX2_correctSet_17 ?_
    refine b_if_ne (tgt := 27) C dX2_correctSet_18 (by decide) (fun c11 => ?_) (fun c11 => ?_)
    · have h12 := ineg h9 c11; clear h9
      obtain ⟨x14, ex14, h15⟩ := lt1_inv h12; clear h12
      refine b_iinc (v := x14) (lv' := [(2, .int x14), (0, .ref (ad 0)), (1, .int x2)]) C 2 dX2_correctSet_27 rfl (by rw [ex14]; rfl) (by decide) rfl ?_
      refine b_goto (tgt := 4) C dX2_correctSet_30 (by decide) ?_
      exact b_sub [1, 2, 0] rfl (hq4 _ _ _ h15)
    have h13 := ipos h9 c11; clear h9
    refine b_iload_n C 1 dX2_correctSet_21 rfl rfl ?_
    refine b_iconst (v := (1 : Int32)) C dX2_correctSet_22 (by decide) ?_
    refine b_iload_n C 2 dX2_correctSet_23 rfl rfl ?_
    refine b_ishl C dX2_correctSet_24 ?_
    refine b_ior C dX2_correctSet_25 ?_
    obtain ⟨x16, ex16, h17⟩ := lt1_inv h13; clear h13
    refine b_nmI ex16 ?_
    refine b_istore_n (lv' := [(1, .int x16), (0, .ref (ad 0)), (2, .int x3)]) C dX2_correctSet_26 rfl (by decide) rfl ?_
    obtain ⟨x18, ex18, h19⟩ := lt1_inv h17; clear h17
    refine b_iinc (v := x18) (lv' := [(2, .int x18), (1, .int x16), (0, .ref (ad 0))]) C 2 dX2_correctSet_27 rfl (by rw [ex18]; rfl) (by decide) rfl ?_
    refine b_goto (tgt := 4) C dX2_correctSet_30 (by decide) ?_
    exact b_sub [2, 1, 0] rfl (hq4 _ _ _ h19)
theorem ctX2_correctSet {l : Launch} {ad : Nat → Nat} {ca : Nat → ClassId} {N : Nat} {σ : St} {rf : Int32} {σf : St} (h : fX2_correctSet N σ = some (rf, σf)) : Cw l yX2_correctSet cX2_correctSet 3 (some .int) rmX2_correctSet [.ref (ad 0)] (wX ad ca) (tyX ca) σ (some (.int rf)) σf := by
  refine Cw_of (by decide) (sameX ad ca) (Nat.le_of_ble_eq_true rfl) ?_
  intro p e s m args below meth c D A C X hr
  replace C : Cb p s m args meth c RX2 cX2_correctSet 3 := C
  have h1 := h; clear h
  refine b_sub (lv' := [(0, .ref (ad 0))]) [0] rfl ?_
  refine b_iconst (v := (0 : Int32)) C dX2_correctSet_0 (by decide) ?_
  refine b_istore_n (lv' := [(1, .int (0 : Int32)), (0, .ref (ad 0))]) C dX2_correctSet_1 rfl (by decide) rfl ?_
  refine b_iconst (v := (0 : Int32)) C dX2_correctSet_2 (by decide) ?_
  refine b_istore_n (lv' := [(2, .int (0 : Int32)), (1, .int (0 : Int32)), (0, .ref (ad 0))]) C dX2_correctSet_3 rfl (by decide) rfl ?_
  refine b_sub [2, 1, 0] rfl (wX2_correctSet_4 C X hr (fun σ21 x20 h22 => ?_) _ _ _ _ h1)
  refine b_iload_n C 0 dX2_correctSet_33 rfl rfl ?_
  obtain ⟨rfl, rfl⟩ := so2 h22
  exact b_iret C dX2_correctSet_34 hr
def rmX2_faultyNodes : Room := { frames := 1, cells := 0, slots := 0, locals := 22 }
def fX2_faultyNodes (N : Nat) (σ : St) : Option (Int32 × St) :=
  bd2 (fX2_correctSet N σ) fun r4 σ3 =>
  bd0 (fJ6_bitCount_0f7a4 r4) fun r6 =>
  some (((gI σ 0) - r6), σ3)
theorem ctX2_faultyNodes {l : Launch} {ad : Nat → Nat} {ca : Nat → ClassId} {N : Nat} {σ : St} {rf : Int32} {σf : St} (h : fX2_faultyNodes N σ = some (rf, σf)) : Cw l yX2_faultyNodes cX2_faultyNodes 1 (some .int) rmX2_faultyNodes [.ref (ad 0)] (wX ad ca) (tyX ca) σ (some (.int rf)) σf := by
  refine Cw_of (by decide) (sameX ad ca) (Nat.le_of_ble_eq_true rfl) ?_
  intro p e s m args below meth c D A C X hr
  replace C : Cb p s m args meth c RX2 cX2_faultyNodes 1 := C
  have h1 := h; clear h
  refine b_sub (lv' := [(0, .ref (ad 0))]) [0] rfl ?_
  refine b_aload_n C 0 dX2_faultyNodes_0 rfl rfl ?_
  refine gX2_53 C X dX2_faultyNodes_1 ?_
  refine b_aload_n C 0 dX2_faultyNodes_4 rfl rfl ?_
  obtain ⟨r4, σ3, ec2, h2⟩ := bd2_inv h1; clear h1
  refine b_callWi (rest := [.int (gI σ 0)]) C (sameX ad ca) X dX2_faultyNodes_5 (ctX2_correctSet ec2) mf_X2_correctSet mi_X2_correctSet kl_X2_149 0 rfl rfl rfl rfl ⟨rfl, rfl⟩ ⟨Nat.le_of_ble_eq_true rfl, Nat.le_of_ble_eq_true rfl⟩ ⟨Nat.zero_le _, Nat.zero_le _⟩ rfl (Nat.le_of_ble_eq_true rfl) ?_
  obtain ⟨r6, ec5, h5⟩ := bd0_inv h2; clear h2
  refine b_callSi (rest := [.int (gI σ 0)]) C dX2_faultyNodes_8 (ctJ6_bitCount_0f7a4 ec5) mf_J6_bitCount_0f7a4 ms_J6_bitCount_0f7a4 kl_X2_204 rfl ⟨rfl, rfl⟩ ⟨Nat.le_of_ble_eq_true rfl, Nat.le_of_ble_eq_true rfl⟩ ⟨Nat.zero_le _, Nat.zero_le _⟩ rfl (Nat.le_of_ble_eq_true rfl) ?_
  refine b_isub C dX2_faultyNodes_11 ?_
  obtain ⟨rfl, rfl⟩ := so2 h5
  exact b_iret C dX2_faultyNodes_12 hr
def rmX2_delayOf : Room := { frames := 0, cells := 0, slots := 0, locals := 0 }
def fX2_delayOf (σ : St) (a1 : Int32) (a2 : Int32) : Option (Int32 × St) :=
  lt1 ((a1 * (10 : Int32)) + a2) fun x4 =>
  if x4 < (0 : Int32) then (
  some ((-1 : Int32), σ))
  else (
  if (100 : Int32) ≤ x4 then (
  some ((-1 : Int32), σ))
  else (
  if (x4 < 0 ∨ 100 ≤ (x4).toNatClampNeg) then none else
  some ((gF σ 1 (x4).toNatClampNeg), σ)))
theorem ctX2_delayOf {l : Launch} {ad : Nat → Nat} {ca : Nat → ClassId} {σ : St} {a1 : Int32} {a2 : Int32} {rf : Int32} {σf : St} (h : fX2_delayOf σ a1 a2 = some (rf, σf)) : Cw l yX2_delayOf cX2_delayOf 4 (some .int) rmX2_delayOf [.ref (ad 0), .int a1, .int a2] (wX ad ca) (tyX ca) σ (some (.int rf)) σf := by
  refine Cw_of (by decide) (sameX ad ca) (Nat.le_of_ble_eq_true rfl) ?_
  intro p e s m args below meth c D A C X hr
  replace C : Cb p s m args meth c RX2 cX2_delayOf 4 := C
  have h3 := h; clear h
  refine b_sub (lv' := [(0, .ref (ad 0)), (1, .int a1), (2, .int a2)]) [0, 1, 2] rfl ?_
  refine b_iload_n C 1 dX2_delayOf_0 rfl rfl ?_
  refine b_bipush (v := (10 : Int32)) C dX2_delayOf_1 (by decide) ?_
  refine b_imul C dX2_delayOf_3 ?_
  refine b_iload_n C 2 dX2_delayOf_4 rfl rfl ?_
  refine b_iadd C dX2_delayOf_5 ?_
  obtain ⟨x4, ex4, h5⟩ := lt1_inv h3; clear h3
  refine b_nmI ex4 ?_
  refine b_istore_n (lv' := [(3, .int x4), (0, .ref (ad 0)), (1, .int a1), (2, .int a2)]) C dX2_delayOf_6 rfl (by decide) rfl ?_
  refine b_iload_n C 0 dX2_delayOf_7 rfl rfl ?_
  refine b_if_lt (tgt := 29) C dX2_delayOf_8 (by decide) (fun c6 => ?_) (fun c6 => ?_)
  · have h7 := ipos h5 c6; clear h5
    refine b_iconst (v := (-1 : Int32)) C dX2_delayOf_29 (by decide) ?_
    obtain ⟨rfl, rfl⟩ := so2 h7
    exact b_iret C dX2_delayOf_30 hr
  have h8 := ineg h5 c6; clear h5
  refine b_iload_n C 0 dX2_delayOf_11 rfl rfl ?_
  refine b_aload_n C 1 dX2_delayOf_12 rfl rfl ?_
  refine gX2_30 C X dX2_delayOf_13 ?_
  refine nX_9 C X dX2_delayOf_16 ?_
  refine b_icmp_ge (tgt := 29) C dX2_delayOf_17 (by decide) (fun c9 => ?_) (fun c9 => ?_)
  · have h10 := ipos h8 c9; clear h8
    refine b_iconst (v := (-1 : Int32)) C dX2_delayOf_29 (by decide) ?_
    obtain ⟨rfl, rfl⟩ := so2 h10
    exact b_iret C dX2_delayOf_30 hr
  have h11 := ineg h8 c9; clear h8
  refine b_aload_n C 1 dX2_delayOf_20 rfl rfl ?_
  refine gX2_30 C X dX2_delayOf_21 ?_
  refine b_iload_n C 0 dX2_delayOf_24 rfl rfl ?_
  obtain ⟨g13, h12⟩ := gdn h11; clear h11
  refine lX_9 C X g13 dX2_delayOf_25 ?_
  refine b_goto (tgt := 30) C dX2_delayOf_26 (by decide) ?_
  obtain ⟨rfl, rfl⟩ := so2 h12
  exact b_iret C dX2_delayOf_30 hr
def rmX2_isWithin : Room := { frames := 0, cells := 0, slots := 0, locals := 0 }
def fX2_isWithin (a1 : Int32) (a2 : Int32) (a3 : Int32) : Option Int32 :=
  if a1 < a2 then (
  some (0 : Int32))
  else (
  if a3 < a1 then (
  some (0 : Int32))
  else (
  some (1 : Int32)))
theorem ctX2_isWithin {l : Launch} {a1 : Int32} {a2 : Int32} {a3 : Int32} {rf : Int32} (h : fX2_isWithin a1 a2 a3 = some rf) : Cs l yX2_isWithin cX2_isWithin 3 (some .boolean) rmX2_isWithin [.int a1, .int a2, .int a3] (some (.int rf)) := by
  refine Cs_of (by decide +kernel) (Nat.le_of_ble_eq_true rfl) ?_
  intro p e s m args below meth c C hr
  replace C : Cb p s m args meth c RX2 cX2_isWithin 3 := C
  have h4 := h; clear h
  refine b_sub (lv' := [(0, .int a1), (1, .int a2), (2, .int a3)]) [0, 1, 2] rfl ?_
  refine b_iload_n C 0 dX2_isWithin_0 rfl rfl ?_
  refine b_iload_n C 1 dX2_isWithin_1 rfl rfl ?_
  refine b_icmp_lt (tgt := 14) C dX2_isWithin_2 (by decide) (fun c5 => ?_) (fun c5 => ?_)
  · have h6 := ipos h4 c5; clear h4
    refine b_iconst (v := (0 : Int32)) C dX2_isWithin_14 (by decide) ?_
    obtain rfl := so1 h6
    exact s_zret C dX2_isWithin_15 hr rfl
  have h7 := ineg h4 c5; clear h4
  refine b_iload_n C 0 dX2_isWithin_5 rfl rfl ?_
  refine b_iload_n C 2 dX2_isWithin_6 rfl rfl ?_
  refine b_icmp_gt (tgt := 14) C dX2_isWithin_7 (by decide) (fun c8 => ?_) (fun c8 => ?_)
  · have h9 := ipos h7 c8; clear h7
    refine b_iconst (v := (0 : Int32)) C dX2_isWithin_14 (by decide) ?_
    obtain rfl := so1 h9
    exact s_zret C dX2_isWithin_15 hr rfl
  have h10 := ineg h7 c8; clear h7
  refine b_iconst (v := (1 : Int32)) C dX2_isWithin_10 (by decide) ?_
  refine b_goto (tgt := 15) C dX2_isWithin_11 (by decide) ?_
  obtain rfl := so1 h10
  exact s_zret C dX2_isWithin_15 hr rfl
def rmX2_linksWithDelay : Room := { frames := 1, cells := 0, slots := 0, locals := 23 }
def fX2_linksWithDelay_15b (N : Nat) (q54 : St → Int32 → Int32 → Int32 → Option (Int32 × St)) (q15 : St → Int32 → Int32 → Int32 → Int32 → Option (Int32 × St)) (σ15 : St) (x11 : Int32) (x12 : Int32) (x13 : Int32) (x14 : Int32) : Option (Int32 × St) :=
  if (gI σ15 0) ≤ x14 then (
  q54 σ15 x11 x12 x13)
  else (
  if x13 = x14 then (
  lt1 (x14 + (1 : Int32)) fun x23 =>
  q15 σ15 x11 x12 x13 x23)
  else (
  bd2 (fX2_delayOf σ15 x13 x14) fun r27 σ26 =>
  bd0 (fX2_isWithin r27 (0 : Int32) x11) fun r29 =>
  if r29 = (0 : Int32) then (
  lt1 (x14 + (1 : Int32)) fun x33 =>
  q15 σ26 x11 x12 x13 x33)
  else (
  lt1 (x12 + (1 : Int32)) fun x35 =>
  lt1 (x14 + (1 : Int32)) fun x37 =>
  q15 σ26 x11 x35 x13 x37)))
def fX2_linksWithDelay_15 (N : Nat) (q54 : St → Int32 → Int32 → Int32 → Option (Int32 × St)) : Nat → St → Int32 → Int32 → Int32 → Int32 → Option (Int32 × St)
  | 0, _, _, _, _, _ => none
  | n + 1, σ, x11, x12, x13, x14 => fX2_linksWithDelay_15b N q54 (fX2_linksWithDelay_15 N q54 n) σ x11 x12 x13 x14
def fX2_linksWithDelay_4b (N : Nat) (q60 : St → Int32 → Option (Int32 × St)) (q4 : St → Int32 → Int32 → Int32 → Option (Int32 × St)) (σ6 : St) (x3 : Int32) (x4 : Int32) (x5 : Int32) : Option (Int32 × St) :=
  if (gI σ6 0) ≤ x5 then (
  q60 σ6 x4)
  else (
  fX2_linksWithDelay_15 N (fun σ42 x39 x40 x41 =>
 lt1 (x41 + (1 : Int32)) fun x44 =>
  q4 σ42 x39 x40 x44) N σ6 x3 x4 x5 (0 : Int32))
def fX2_linksWithDelay_4 (N : Nat) (q60 : St → Int32 → Option (Int32 × St)) : Nat → St → Int32 → Int32 → Int32 → Option (Int32 × St)
  | 0, _, _, _, _ => none
  | n + 1, σ, x3, x4, x5 => fX2_linksWithDelay_4b N q60 (fX2_linksWithDelay_4 N q60 n) σ x3 x4 x5
def fX2_linksWithDelay (N : Nat) (σ : St) (a1 : Int32) : Option (Int32 × St) :=
  fX2_linksWithDelay_4 N (fun σ47 x46 =>
 some (x46, σ47)) N σ a1 (0 : Int32) (0 : Int32)
theorem wX2_linksWithDelay_15 {l : Launch} {p : Program} {e : Env} {s : State} {m : MethodId} {args : Array Value} {below : List Frame} {meth : Method} {c : Code} {D : va_G} {A : Nat → Prop} {ad : Nat → Nat} {ca : Nat → ClassId} {rf : Int32} {σf : St} (C : Cb p s m args meth c RX2 cX2_linksWithDelay 5) (X : Cx s D A (wX ad ca) (tyX ca)) (hr : meth.sig.returnType = (some .int)) {N : Nat} {q54 : St → Int32 → Int32 → Int32 → Option (Int32 × St)} (hq54 : ∀ (σ : St) (y0 : Int32) (y1 : Int32) (y2 : Int32), q54 σ y0 y1 y2 = some (rf, σf) → bW p l e rmX2_linksWithDelay s m args below meth c 0 0 (MQ below (Qw D (wX ad ca) σf (some (.int rf)) A) args s 0 0 A) 5 (wd D A (wX ad ca) s σ) 54 [(0, .ref (ad 0)), (1, .int y0), (2, .int y1), (3, .int y2)] []) : ∀ n : Nat, ∀ (σ : St) (y0 : Int32) (y1 : Int32) (y2 : Int32) (y3 : Int32), fX2_linksWithDelay_15 N q54 n σ y0 y1 y2 y3 = some (rf, σf) → bW p l e rmX2_linksWithDelay s m args below meth c 0 0 (MQ below (Qw D (wX ad ca) σf (some (.int rf)) A) args s 0 0 A) 5 (wd D A (wX ad ca) s σ) 15 [(0, .ref (ad 0)), (1, .int y0), (2, .int y1), (3, .int y2), (4, .int y3)] [] := by
  intro n
  induction n with
  | zero => intro σ15 x11 x12 x13 x14 h16; exact nn h16
  | succ n hq15 =>
    intro σ15 x11 x12 x13 x14 h16
    replace h16 : fX2_linksWithDelay_15b N q54 (fX2_linksWithDelay_15 N q54 n) σ15 x11 x12 x13 x14 = some (rf, σf) := h16
    refine b_iload C 4 dX2_linksWithDelay_15 rfl ?_
    refine b_aload_n C 0 dX2_linksWithDelay_17 rfl rfl ?_
    refine gX2_53 C X dX2_linksWithDelay_18 ?_
    refine b_icmp_ge (tgt := 54) C dX2_linksWithDelay_21 (by decide) (fun c17 => ?_) (fun c17 => ?_)
    · have h18 := ipos h16 c17; clear h16
      exact b_sub [0, 1, 2, 3] rfl (hq54 _ _ _ _ h18)
    have h19 := ineg h16 c17; clear h16
    refine b_iload_n C 3 dX2_linksWithDelay_24 rfl rfl ?_
    refine b_iload C 4 dX2_linksWithDelay_25 rfl ?_
    refine b_icmp_eq (tgt := 48) C dX2_linksWithDelay_27 (by decide) (fun c20 => ?_) (fun c20 => ?_)
    · have h21 := ipos h19 c20; clear h19
      obtain ⟨x23, ex23, h24⟩ := lt1_inv h21; clear h21
      refine b_iinc (v := x23) (lv' := [(4, .int x23), (0, .ref (ad 0)), (1, .int x11), (2, .int x12), (3, .int x13)]) C 4 dX2_linksWithDelay_48 rfl (by rw [ex23]; rfl) (by decide) rfl ?_
      refine b_goto (tgt := 15) C dX2_linksWithDelay_51 (by decide) ?_
      exact b_sub [1, 2, 3, 4, 0] rfl (hq15 _ _ _ _ _ h24)
    have h22 := ineg h19 c20; clear h19
    refine b_aload_n C 0 dX2_linksWithDelay_30 rfl rfl ?_
    refine b_iload_n C 3 dX2_linksWithDelay_31 rfl rfl ?_
    refine b_iload C 4 dX2_linksWithDelay_32 rfl ?_
    obtain ⟨r27, σ26, ec25, h25⟩ := bd2_inv h22; clear h22
    refine b_callWi (rest := []) C (sameX ad ca) X dX2_linksWithDelay_34 (ctX2_delayOf ec25) mf_X2_delayOf mi_X2_delayOf kl_X2_94 0 rfl rfl rfl rfl ⟨rfl, rfl⟩ ⟨Nat.le_of_ble_eq_true rfl, Nat.le_of_ble_eq_true rfl⟩ ⟨Nat.zero_le _, Nat.zero_le _⟩ rfl (Nat.le_of_ble_eq_true rfl) ?_
    refine b_iconst (v := (0 : Int32)) C dX2_linksWithDelay_37 (by decide) ?_
    refine b_iload_n C 1 dX2_linksWithDelay_38 rfl rfl ?_
    obtain ⟨r29, ec28, h28⟩ := bd0_inv h25; clear h25
    refine b_callSi (rest := []) C dX2_linksWithDelay_39 (ctX2_isWithin ec28) mf_X2_isWithin ms_X2_isWithin kl_X2_49 rfl ⟨rfl, rfl⟩ ⟨Nat.le_of_ble_eq_true rfl, Nat.le_of_ble_eq_true rfl⟩ ⟨Nat.zero_le _, Nat.zero_le _⟩ rfl (Nat.le_of_ble_eq_true rfl) ?_
    refine b_if_eq (tgt := 48) C dX2_linksWithDelay_42 (by decide) (fun c30 => ?_) (fun c30 => ?_)
    · have h31 := ipos h28 c30; clear h28
      obtain ⟨x33, ex33, h34⟩ := lt1_inv h31; clear h31
      refine b_iinc (v := x33) (lv' := [(4, .int x33), (0, .ref (ad 0)), (1, .int x11), (2, .int x12), (3, .int x13)]) C 4 dX2_linksWithDelay_48 rfl (by rw [ex33]; rfl) (by decide) rfl ?_
      refine b_goto (tgt := 15) C dX2_linksWithDelay_51 (by decide) ?_
      exact b_sub [1, 2, 3, 4, 0] rfl (hq15 _ _ _ _ _ h34)
    have h32 := ineg h28 c30; clear h28
    obtain ⟨x35, ex35, h36⟩ := lt1_inv h32; clear h32
    refine b_iinc (v := x35) (lv' := [(2, .int x35), (0, .ref (ad 0)), (1, .int x11), (3, .int x13), (4, .int x14)]) C 2 dX2_linksWithDelay_45 rfl (by rw [ex35]; rfl) (by decide) rfl ?_
    obtain ⟨x37, ex37, h38⟩ := lt1_inv h36; clear h36
    refine b_iinc (v := x37) (lv' := [(4, .int x37), (2, .int x35), (0, .ref (ad 0)), (1, .int x11), (3, .int x13)]) C 4 dX2_linksWithDelay_48 rfl (by rw [ex37]; rfl) (by decide) rfl ?_
    refine b_goto (tgt := 15) C dX2_linksWithDelay_51 (by decide) ?_
    exact b_sub [2, 3, 1, 4, 0] rfl (hq15 _ _ _ _ _ h38)
theorem wX2_linksWithDelay_4 {l : Launch} {p : Program} {e : Env} {s : State} {m : MethodId} {args : Array Value} {below : List Frame} {meth : Method} {c : Code} {D : va_G} {A : Nat → Prop} {ad : Nat → Nat} {ca : Nat → ClassId} {rf : Int32} {σf : St} (C : Cb p s m args meth c RX2 cX2_linksWithDelay 5) (X : Cx s D A (wX ad ca) (tyX ca)) (hr : meth.sig.returnType = (some .int)) {N : Nat} {q60 : St → Int32 → Option (Int32 × St)} (hq60 : ∀ (σ : St) (y0 : Int32), q60 σ y0 = some (rf, σf) → bW p l e rmX2_linksWithDelay s m args below meth c 0 0 (MQ below (Qw D (wX ad ca) σf (some (.int rf)) A) args s 0 0 A) 5 (wd D A (wX ad ca) s σ) 60 [(2, .int y0)] []) : ∀ n : Nat, ∀ (σ : St) (y0 : Int32) (y1 : Int32) (y2 : Int32), fX2_linksWithDelay_4 N q60 n σ y0 y1 y2 = some (rf, σf) → bW p l e rmX2_linksWithDelay s m args below meth c 0 0 (MQ below (Qw D (wX ad ca) σf (some (.int rf)) A) args s 0 0 A) 5 (wd D A (wX ad ca) s σ) 4 [(0, .ref (ad 0)), (1, .int y0), (2, .int y1), (3, .int y2)] [] := by
  intro n
  induction n with
  | zero => intro σ6 x3 x4 x5 h7; exact nn h7
  | succ n hq4 =>
    intro σ6 x3 x4 x5 h7
    replace h7 : fX2_linksWithDelay_4b N q60 (fX2_linksWithDelay_4 N q60 n) σ6 x3 x4 x5 = some (rf, σf) := h7
    refine b_iload_n C 3 dX2_linksWithDelay_4 rfl rfl ?_
    refine b_aload_n C 0 dX2_linksWithDelay_5 rfl rfl ?_
    refine gX2_53 C X dX2_linksWithDelay_6 ?_
    refine b_icmp_ge (tgt := 60) C dX2_linksWithDelay_9 (by decide) (fun c8 => ?_) (fun c8 => ?_)
    · have h9 := ipos h7 c8; clear h7
      exact b_sub [2] rfl (hq60 _ _ h9)
    have h10 := ineg h7 c8; clear h7
    refine b_iconst (v := (0 : Int32)) C dX2_linksWithDelay_12 (by decide) ?_
    refine b_istore (lv' := [(4, .int (0 : Int32)), (0, .ref (ad 0)), (1, .int x3), (2, .int x4), (3, .int x5)]) C dX2_linksWithDelay_13 (by decide) rfl ?_
    refine b_sub [1, 2, 3, 4, 0] rfl (wX2_linksWithDelay_15 C X hr (fun σ42 x39 x40 x41 h43 => ?_) _ _ _ _ _ _ h10)
    obtain ⟨x44, ex44, h45⟩ := lt1_inv h43; clear h43
    refine b_iinc (v := x44) (lv' := [(3, .int x44), (0, .ref (ad 0)), (1, .int x39), (2, .int x40)]) C 3 dX2_linksWithDelay_54 rfl (by rw [ex44]; rfl) (by decide) rfl ?_
    refine b_goto (tgt := 4) C dX2_linksWithDelay_57 (by decide) ?_
    exact b_sub [1, 2, 3, 0] rfl (hq4 _ _ _ _ h45)
theorem ctX2_linksWithDelay {l : Launch} {ad : Nat → Nat} {ca : Nat → ClassId} {N : Nat} {σ : St} {a1 : Int32} {rf : Int32} {σf : St} (h : fX2_linksWithDelay N σ a1 = some (rf, σf)) : Cw l yX2_linksWithDelay cX2_linksWithDelay 5 (some .int) rmX2_linksWithDelay [.ref (ad 0), .int a1] (wX ad ca) (tyX ca) σ (some (.int rf)) σf := by
  refine Cw_of (by decide) (sameX ad ca) (Nat.le_of_ble_eq_true rfl) ?_
  intro p e s m args below meth c D A C X hr
  replace C : Cb p s m args meth c RX2 cX2_linksWithDelay 5 := C
  have h2 := h; clear h
  refine b_sub (lv' := [(0, .ref (ad 0)), (1, .int a1)]) [0, 1] rfl ?_
  refine b_iconst (v := (0 : Int32)) C dX2_linksWithDelay_0 (by decide) ?_
  refine b_istore_n (lv' := [(2, .int (0 : Int32)), (0, .ref (ad 0)), (1, .int a1)]) C dX2_linksWithDelay_1 rfl (by decide) rfl ?_
  refine b_iconst (v := (0 : Int32)) C dX2_linksWithDelay_2 (by decide) ?_
  refine b_istore_n (lv' := [(3, .int (0 : Int32)), (2, .int (0 : Int32)), (0, .ref (ad 0)), (1, .int a1)]) C dX2_linksWithDelay_3 rfl (by decide) rfl ?_
  refine b_sub [2, 3, 1, 0] rfl (wX2_linksWithDelay_4 C X hr (fun σ47 x46 h48 => ?_) _ _ _ _ _ h2)
  refine b_iload_n C 0 dX2_linksWithDelay_60 rfl rfl ?_
  obtain ⟨rfl, rfl⟩ := so2 h48
  exact b_iret C dX2_linksWithDelay_61 hr
def rmX2_count : Room := { frames := 4, cells := 0, slots := 0, locals := 90 }
def fX2_count (N : Nat) (σ : St) (a1 : Int32) : Option (Int32 × St) :=
  if a1 = (0 : Int32) then (
  some ((gI σ 0), σ))
  else if a1 = (1 : Int32) then (
  some ((gI σ 1), σ))
  else if a1 = (2 : Int32) then (
  some ((gI σ 2), σ))
  else if a1 = (3 : Int32) then (
  some ((gI σ 3), σ))
  else if a1 = (4 : Int32) then (
  bd2 (fX2_faultyNodes N σ) fun r20 σ19 =>
  some (r20, σ19))
  else if a1 = (5 : Int32) then (
  some ((gI σ 4), σ))
  else if a1 = (6 : Int32) then (
  bd2 (fX2_linksWithDelay N σ (3 : Int32)) fun r29 σ28 =>
  some (r29, σ28))
  else if a1 = (7 : Int32) then (
  bd2 (fX2_differentValues N σ) fun r35 σ34 =>
  some (r35, σ34))
  else (
  some ((-1002 : Int32), σ))
theorem ctX2_count {l : Launch} {ad : Nat → Nat} {ca : Nat → ClassId} {N : Nat} {σ : St} {a1 : Int32} {rf : Int32} {σf : St} (h : fX2_count N σ a1 = some (rf, σf)) : Cw l yX2_count cX2_count 2 (some .int) rmX2_count [.ref (ad 0), .int a1] (wX ad ca) (tyX ca) σ (some (.int rf)) σf := by
  refine Cw_of (by decide) (sameX ad ca) (Nat.le_of_ble_eq_true rfl) ?_
  intro p e s m args below meth c D A C X hr
  replace C : Cb p s m args meth c RX2 cX2_count 2 := C
  have h2 := h; clear h
  refine b_sub (lv' := [(0, .ref (ad 0)), (1, .int a1)]) [0, 1] rfl ?_
  refine b_iload_n C 1 dX2_count_0 rfl rfl ?_
  rcases Classical.em (a1 = (0 : Int32)) with c3 | c3
  · have h4 := ipos h2 c3; clear h2
    refine b_tswIn (off := 47) (tgt := 48) (kx := (0 : Int32)) C dX2_count_1 c3 (by decide) (by decide) (by decide) (by decide) ?_
    refine b_aload_n C 0 dX2_count_48 rfl rfl ?_
    refine gX2_53 C X dX2_count_49 ?_
    obtain ⟨rfl, rfl⟩ := so2 h4
    exact b_iret C dX2_count_52 hr
  have h5 := ineg h2 c3; clear h2
  rcases Classical.em (a1 = (1 : Int32)) with c6 | c6
  · have h7 := ipos h5 c6; clear h5
    refine b_tswIn (off := 52) (tgt := 53) (kx := (1 : Int32)) C dX2_count_1 c6 (by decide) (by decide) (by decide) (by decide) ?_
    refine b_aload_n C 0 dX2_count_53 rfl rfl ?_
    refine gX2_101 C X dX2_count_54 ?_
    obtain ⟨rfl, rfl⟩ := so2 h7
    exact b_iret C dX2_count_57 hr
  have h8 := ineg h5 c6; clear h5
  rcases Classical.em (a1 = (2 : Int32)) with c9 | c9
  · have h10 := ipos h8 c9; clear h8
    refine b_tswIn (off := 57) (tgt := 58) (kx := (2 : Int32)) C dX2_count_1 c9 (by decide) (by decide) (by decide) (by decide) ?_
    refine b_aload_n C 0 dX2_count_58 rfl rfl ?_
    refine gX2_83 C X dX2_count_59 ?_
    obtain ⟨rfl, rfl⟩ := so2 h10
    exact b_iret C dX2_count_62 hr
  have h11 := ineg h8 c9; clear h8
  rcases Classical.em (a1 = (3 : Int32)) with c12 | c12
  · have h13 := ipos h11 c12; clear h11
    refine b_tswIn (off := 62) (tgt := 63) (kx := (3 : Int32)) C dX2_count_1 c12 (by decide) (by decide) (by decide) (by decide) ?_
    refine b_aload_n C 0 dX2_count_63 rfl rfl ?_
    refine gX2_72 C X dX2_count_64 ?_
    obtain ⟨rfl, rfl⟩ := so2 h13
    exact b_iret C dX2_count_67 hr
  have h14 := ineg h11 c12; clear h11
  rcases Classical.em (a1 = (4 : Int32)) with c15 | c15
  · have h16 := ipos h14 c15; clear h14
    refine b_tswIn (off := 67) (tgt := 68) (kx := (4 : Int32)) C dX2_count_1 c15 (by decide) (by decide) (by decide) (by decide) ?_
    refine b_aload_n C 0 dX2_count_68 rfl rfl ?_
    obtain ⟨r20, σ19, ec18, h18⟩ := bd2_inv h16; clear h16
    refine b_callWi (rest := []) C (sameX ad ca) X dX2_count_69 (ctX2_faultyNodes ec18) mf_X2_faultyNodes mi_X2_faultyNodes kl_X2_104 0 rfl rfl rfl rfl ⟨rfl, rfl⟩ ⟨Nat.le_of_ble_eq_true rfl, Nat.le_of_ble_eq_true rfl⟩ ⟨Nat.zero_le _, Nat.zero_le _⟩ rfl (Nat.le_of_ble_eq_true rfl) ?_
    obtain ⟨rfl, rfl⟩ := so2 h18
    exact b_iret C dX2_count_72 hr
  have h17 := ineg h14 c15; clear h14
  rcases Classical.em (a1 = (5 : Int32)) with c21 | c21
  · have h22 := ipos h17 c21; clear h17
    refine b_tswIn (off := 72) (tgt := 73) (kx := (5 : Int32)) C dX2_count_1 c21 (by decide) (by decide) (by decide) (by decide) ?_
    refine b_aload_n C 0 dX2_count_73 rfl rfl ?_
    refine gX2_98 C X dX2_count_74 ?_
    obtain ⟨rfl, rfl⟩ := so2 h22
    exact b_iret C dX2_count_77 hr
  have h23 := ineg h17 c21; clear h17
  rcases Classical.em (a1 = (6 : Int32)) with c24 | c24
  · have h25 := ipos h23 c24; clear h23
    refine b_tswIn (off := 77) (tgt := 78) (kx := (6 : Int32)) C dX2_count_1 c24 (by decide) (by decide) (by decide) (by decide) ?_
    refine b_aload_n C 0 dX2_count_78 rfl rfl ?_
    refine b_iconst (v := (3 : Int32)) C dX2_count_79 (by decide) ?_
    obtain ⟨r29, σ28, ec27, h27⟩ := bd2_inv h25; clear h25
    refine b_callWi (rest := []) C (sameX ad ca) X dX2_count_80 (ctX2_linksWithDelay ec27) mf_X2_linksWithDelay mi_X2_linksWithDelay kl_X2_107 0 rfl rfl rfl rfl ⟨rfl, rfl⟩ ⟨Nat.le_of_ble_eq_true rfl, Nat.le_of_ble_eq_true rfl⟩ ⟨Nat.zero_le _, Nat.zero_le _⟩ rfl (Nat.le_of_ble_eq_true rfl) ?_
    obtain ⟨rfl, rfl⟩ := so2 h27
    exact b_iret C dX2_count_83 hr
  have h26 := ineg h23 c24; clear h23
  rcases Classical.em (a1 = (7 : Int32)) with c30 | c30
  · have h31 := ipos h26 c30; clear h26
    refine b_tswIn (off := 83) (tgt := 84) (kx := (7 : Int32)) C dX2_count_1 c30 (by decide) (by decide) (by decide) (by decide) ?_
    refine b_aload_n C 0 dX2_count_84 rfl rfl ?_
    obtain ⟨r35, σ34, ec33, h33⟩ := bd2_inv h31; clear h31
    refine b_callWi (rest := []) C (sameX ad ca) X dX2_count_85 (ctX2_differentValues ec33) mf_X2_differentValues mi_X2_differentValues kl_X2_111 0 rfl rfl rfl rfl ⟨rfl, rfl⟩ ⟨Nat.le_of_ble_eq_true rfl, Nat.le_of_ble_eq_true rfl⟩ ⟨Nat.zero_le _, Nat.zero_le _⟩ rfl (Nat.le_of_ble_eq_true rfl) ?_
    obtain ⟨rfl, rfl⟩ := so2 h33
    exact b_iret C dX2_count_88 hr
  have h32 := ineg h26 c30; clear h26
  refine b_tswOut (tgt := 89) C dX2_count_1 (by have q0 := i32_ne c3 (z := 0) (by decide); have q1 := i32_ne c6 (z := 1) (by decide); have q2 := i32_ne c9 (z := 2) (by decide); have q3 := i32_ne c12 (z := 3) (by decide); have q4 := i32_ne c15 (z := 4) (by decide); have q5 := i32_ne c21 (z := 5) (by decide); have q6 := i32_ne c24 (z := 6) (by decide); have q7 := i32_ne c30 (z := 7) (by decide); omega) (by decide) ?_
  refine b_sipush (v := (-1002 : Int32)) C dX2_count_89 (by decide) ?_
  obtain ⟨rfl, rfl⟩ := so2 h32
  exact b_iret C dX2_count_92 hr
def rmX2_greatestCommonDivisor : Room := { frames := 0, cells := 0, slots := 0, locals := 0 }
def fX2_greatestCommonDivisor_9b (N : Nat) (q45 : Int64 → Option Int64) (q9 : Int64 → Int64 → Int32 → Option Int64) (x4 : Int64) (x5 : Int64) (x6 : Int32) : Option Int64 :=
  if (1000 : Int32) ≤ x6 then (
  q45 x4)
  else (
  if x5 = (0 : Int64) then (
  q45 x4)
  else (
  if x5 = (0 : Int64) then none else
  lt1 (x4 - x4 / x5 * x5) fun x16 =>
  lt1 (x6 + (1 : Int32)) fun x18 =>
  q9 x5 x16 x18))
def fX2_greatestCommonDivisor_9 (N : Nat) (q45 : Int64 → Option Int64) : Nat → Int64 → Int64 → Int32 → Option Int64
  | 0, _, _, _ => none
  | n + 1, x4, x5, x6 => fX2_greatestCommonDivisor_9b N q45 (fX2_greatestCommonDivisor_9 N q45 n) x4 x5 x6
def fX2_greatestCommonDivisor (N : Nat) (a1 : Int64) (a2 : Int64) : Option Int64 :=
  fX2_greatestCommonDivisor_9 N (fun x20 =>
 some x20) N a1 a2 (0 : Int32)
theorem wX2_greatestCommonDivisor_9 {l : Launch} {p : Program} {e : Env} {s : State} {m : MethodId} {args : Array Value} {below : List Frame} {meth : Method} {c : Code} {rf : Int64} (C : Cb p s m args meth c RX2 cX2_greatestCommonDivisor 11) (hr : meth.sig.returnType = (some .long)) {N : Nat} {q45 : Int64 → Option Int64} (hq45 : ∀ (y0 : Int64), q45 y0 = some rf → bW p l e rmX2_greatestCommonDivisor s m args below meth c 0 0 (MQ below (Qs (some (.long rf))) args s 0 0 (fun _ => False)) 11 (wn s) 45 [(4, .long y0)] []) : ∀ n : Nat, ∀ (y0 : Int64) (y1 : Int64) (y2 : Int32), fX2_greatestCommonDivisor_9 N q45 n y0 y1 y2 = some rf → bW p l e rmX2_greatestCommonDivisor s m args below meth c 0 0 (MQ below (Qs (some (.long rf))) args s 0 0 (fun _ => False)) 11 (wn s) 9 [(4, .long y0), (6, .long y1), (8, .int y2)] [] := by
  intro n
  induction n with
  | zero => intro x4 x5 x6 h7; exact nn h7
  | succ n hq9 =>
    intro x4 x5 x6 h7
    replace h7 : fX2_greatestCommonDivisor_9b N q45 (fX2_greatestCommonDivisor_9 N q45 n) x4 x5 x6 = some rf := h7
    refine b_iload C 2 dX2_greatestCommonDivisor_9 rfl ?_
    refine b_sipush (v := (1000 : Int32)) C dX2_greatestCommonDivisor_11 (by decide) ?_
    refine b_icmp_ge (tgt := 45) C dX2_greatestCommonDivisor_14 (by decide) (fun c8 => ?_) (fun c8 => ?_)
    · have h9 := ipos h7 c8; clear h7
      exact b_sub [0] rfl (hq45 _ h9)
    have h10 := ineg h7 c8; clear h7
    refine b_lload C 1 dX2_greatestCommonDivisor_17 rfl ?_
    refine b_lconst (v := (0 : Int64)) C dX2_greatestCommonDivisor_19 (by decide) ?_
    refine b_lc_eq (tgt := 45) C dX2_greatestCommonDivisor_20 dX2_greatestCommonDivisor_21 (by decide) (fun c11 => ?_) (fun c11 => ?_)
    · have h12 := ipos h10 c11; clear h10
      exact b_sub [0] rfl (hq45 _ h12)
    have h13 := ineg h10 c11; clear h10
    refine b_lload C 0 dX2_greatestCommonDivisor_24 rfl ?_
    refine b_lload C 1 dX2_greatestCommonDivisor_26 rfl ?_
    obtain ⟨g15, h14⟩ := gdn h13; clear h13
    refine b_lrem C dX2_greatestCommonDivisor_28 g15 ?_
    obtain ⟨x16, ex16, h17⟩ := lt1_inv h14; clear h14
    refine b_nmJ ex16 ?_
    refine b_lstore (lv' := [(9, .long x16), (4, .long x4), (6, .long x5), (8, .int x6)]) C dX2_greatestCommonDivisor_29 (by decide) rfl ?_
    refine b_lload C 2 dX2_greatestCommonDivisor_31 rfl ?_
    refine b_lstore (lv' := [(4, .long x5), (9, .long x16), (6, .long x5), (8, .int x6)]) C dX2_greatestCommonDivisor_33 (by decide) rfl ?_
    refine b_lload C 1 dX2_greatestCommonDivisor_35 rfl ?_
    refine b_lstore (lv' := [(6, .long x16), (4, .long x5), (9, .long x16), (8, .int x6)]) C dX2_greatestCommonDivisor_37 (by decide) rfl ?_
    obtain ⟨x18, ex18, h19⟩ := lt1_inv h17; clear h17
    refine b_iinc (v := x18) (lv' := [(8, .int x18), (6, .long x16), (4, .long x5), (9, .long x16)]) C 3 dX2_greatestCommonDivisor_39 rfl (by rw [ex18]; rfl) (by decide) rfl ?_
    refine b_goto (tgt := 9) C dX2_greatestCommonDivisor_42 (by decide) ?_
    exact b_sub [2, 1, 0] rfl (hq9 _ _ _ h19)
theorem ctX2_greatestCommonDivisor {l : Launch} {N : Nat} {a1 : Int64} {a2 : Int64} {rf : Int64} (h : fX2_greatestCommonDivisor N a1 a2 = some rf) : Cs l yX2_greatestCommonDivisor cX2_greatestCommonDivisor 11 (some .long) rmX2_greatestCommonDivisor [.long a1, .long a2] (some (.long rf)) := by
  refine Cs_of (by decide +kernel) (Nat.le_of_ble_eq_true rfl) ?_
  intro p e s m args below meth c C hr
  replace C : Cb p s m args meth c RX2 cX2_greatestCommonDivisor 11 := C
  have h3 := h; clear h
  refine b_sub (lv' := [(0, .long a1), (2, .long a2)]) [0, 1] rfl ?_
  refine b_lload_n C 0 dX2_greatestCommonDivisor_0 rfl rfl ?_
  refine b_lstore (lv' := [(4, .long a1), (0, .long a1), (2, .long a2)]) C dX2_greatestCommonDivisor_1 (by decide) rfl ?_
  refine b_lload_n C 2 dX2_greatestCommonDivisor_3 rfl rfl ?_
  refine b_lstore (lv' := [(6, .long a2), (4, .long a1), (0, .long a1), (2, .long a2)]) C dX2_greatestCommonDivisor_4 (by decide) rfl ?_
  refine b_iconst (v := (0 : Int32)) C dX2_greatestCommonDivisor_6 (by decide) ?_
  refine b_istore (lv' := [(8, .int (0 : Int32)), (6, .long a2), (4, .long a1), (0, .long a1), (2, .long a2)]) C dX2_greatestCommonDivisor_7 (by decide) rfl ?_
  refine b_sub [2, 1, 0] rfl (wX2_greatestCommonDivisor_9 C hr (fun x20 h21 => ?_) _ _ _ _ h3)
  refine b_lload C 0 dX2_greatestCommonDivisor_45 rfl ?_
  obtain rfl := so1 h21
  exact s_lret C dX2_greatestCommonDivisor_47 hr
def rmX2_inLowestTerms : Room := { frames := 1, cells := 0, slots := 0, locals := 30 }
def fX2_inLowestTerms (N : Nat) (a1 : Int64) (a2 : Int64) (a3 : Int32) : Option Int64 :=
  bd0 (fJ9_abs_067f4 a1) fun r6 =>
  bd0 (fX2_greatestCommonDivisor N r6 a2) fun r8 =>
  if (1 : Int64) ≤ r8 then (
  if a3 = (0 : Int32) then (
  if r8 = (0 : Int64) then none else
  some (a1 / r8))
  else (
  if r8 = (0 : Int64) then none else
  some (a2 / r8)))
  else (
  some (-9223372036854775808 : Int64))
theorem ctX2_inLowestTerms {l : Launch} {N : Nat} {a1 : Int64} {a2 : Int64} {a3 : Int32} {rf : Int64} (h : fX2_inLowestTerms N a1 a2 a3 = some rf) : Cs l yX2_inLowestTerms cX2_inLowestTerms 7 (some .long) rmX2_inLowestTerms [.long a1, .long a2, .int a3] (some (.long rf)) := by
  refine Cs_of (by decide +kernel) (Nat.le_of_ble_eq_true rfl) ?_
  intro p e s m args below meth c C hr
  replace C : Cb p s m args meth c RX2 cX2_inLowestTerms 7 := C
  have h4 := h; clear h
  refine b_sub (lv' := [(0, .long a1), (2, .long a2), (4, .int a3)]) [0, 1, 2] rfl ?_
  refine b_lload_n C 0 dX2_inLowestTerms_0 rfl rfl ?_
  obtain ⟨r6, ec5, h5⟩ := bd0_inv h4; clear h4
  refine b_callSl (rest := []) C dX2_inLowestTerms_1 (ctJ9_abs_067f4 ec5) mf_J9_abs_067f4 ms_J9_abs_067f4 kl_X2_194 rfl ⟨rfl, rfl⟩ ⟨Nat.le_of_ble_eq_true rfl, Nat.le_of_ble_eq_true rfl⟩ ⟨Nat.zero_le _, Nat.zero_le _⟩ rfl (Nat.le_of_ble_eq_true rfl) ?_
  refine b_lload_n C 1 dX2_inLowestTerms_4 rfl rfl ?_
  obtain ⟨r8, ec7, h7⟩ := bd0_inv h5; clear h5
  refine b_callSl (rest := []) C dX2_inLowestTerms_5 (ctX2_greatestCommonDivisor ec7) mf_X2_greatestCommonDivisor ms_X2_greatestCommonDivisor kl_X2_200 rfl ⟨rfl, rfl⟩ ⟨Nat.le_of_ble_eq_true rfl, Nat.le_of_ble_eq_true rfl⟩ ⟨Nat.zero_le _, Nat.zero_le _⟩ rfl (Nat.le_of_ble_eq_true rfl) ?_
  refine b_lstore (lv' := [(5, .long r8), (0, .long a1), (2, .long a2), (4, .int a3)]) C dX2_inLowestTerms_8 (by decide) rfl ?_
  refine b_lload C 0 dX2_inLowestTerms_10 rfl ?_
  refine b_lconst (v := (1 : Int64)) C dX2_inLowestTerms_12 (by decide) ?_
  refine b_lc_ge (tgt := 21) C dX2_inLowestTerms_13 dX2_inLowestTerms_14 (by decide) (fun c9 => ?_) (fun c9 => ?_)
  · have h10 := ipos h7 c9; clear h7
    refine b_iload C 3 dX2_inLowestTerms_21 rfl ?_
    refine b_if_eq (tgt := 33) C dX2_inLowestTerms_23 (by decide) (fun c12 => ?_) (fun c12 => ?_)
    · have h13 := ipos h10 c12; clear h10
      refine b_lload_n C 1 dX2_inLowestTerms_33 rfl rfl ?_
      refine b_lload C 0 dX2_inLowestTerms_34 rfl ?_
      obtain ⟨g16, h15⟩ := gdn h13; clear h13
      refine b_ldiv C dX2_inLowestTerms_36 g16 ?_
      obtain rfl := so1 h15
      exact s_lret C dX2_inLowestTerms_37 hr
    have h14 := ineg h10 c12; clear h10
    refine b_lload_n C 2 dX2_inLowestTerms_26 rfl rfl ?_
    refine b_lload C 0 dX2_inLowestTerms_27 rfl ?_
    obtain ⟨g18, h17⟩ := gdn h14; clear h14
    refine b_ldiv C dX2_inLowestTerms_29 g18 ?_
    refine b_goto (tgt := 37) C dX2_inLowestTerms_30 (by decide) ?_
    obtain rfl := so1 h17
    exact s_lret C dX2_inLowestTerms_37 hr
  have h11 := ineg h7 c9; clear h7
  refine b_ldc2 (v := (-9223372036854775808 : Int64)) C dX2_inLowestTerms_17 kc_X2_128 ?_
  obtain rfl := so1 h11
  exact s_lret C dX2_inLowestTerms_20 hr
