def rmX1_parsedHigh : Room := { frames := 0, cells := 0, slots := 0, locals := 0 }
def fX1_parsedHigh (σ : St) : Option (Int64 × St) :=
  some ((gJ σ 2), σ)
theorem ctX1_parsedHigh {l : Launch} {ad : Nat → Nat} {ca : Nat → ClassId} {σ : St} {rf : Int64} {σf : St} (h : fX1_parsedHigh σ = some (rf, σf)) : Cw l yX1_parsedHigh cX1_parsedHigh 1 (some .long) rmX1_parsedHigh [.ref (ad 1)] (wX ad ca) (tyX ca) σ (some (.long rf)) σf := by
  refine Cw_of (by decide) (sameX ad ca) (Nat.le_of_ble_eq_true rfl) ?_
  intro p e s m args below meth c D A C X hr
  replace C : Cb p s m args meth c RX1 cX1_parsedHigh 1 := C
  have h1 := h; clear h
  refine b_sub (lv' := [(0, .ref (ad 1))]) [0] rfl ?_
  refine b_aload_n C 0 dX1_parsedHigh_0 rfl rfl ?_
  refine gX1_23 C X dX1_parsedHigh_1 ?_
  obtain ⟨rfl, rfl⟩ := so2 h1
  exact b_lret C dX1_parsedHigh_4 hr
def rmX1_parsedLow : Room := { frames := 0, cells := 0, slots := 0, locals := 0 }
def fX1_parsedLow (σ : St) : Option (Int64 × St) :=
  some ((gJ σ 1), σ)
theorem ctX1_parsedLow {l : Launch} {ad : Nat → Nat} {ca : Nat → ClassId} {σ : St} {rf : Int64} {σf : St} (h : fX1_parsedLow σ = some (rf, σf)) : Cw l yX1_parsedLow cX1_parsedLow 1 (some .long) rmX1_parsedLow [.ref (ad 1)] (wX ad ca) (tyX ca) σ (some (.long rf)) σf := by
  refine Cw_of (by decide) (sameX ad ca) (Nat.le_of_ble_eq_true rfl) ?_
  intro p e s m args below meth c D A C X hr
  replace C : Cb p s m args meth c RX1 cX1_parsedLow 1 := C
  have h1 := h; clear h
  refine b_sub (lv' := [(0, .ref (ad 1))]) [0] rfl ?_
  refine b_aload_n C 0 dX1_parsedLow_0 rfl rfl ?_
  refine gX1_19 C X dX1_parsedLow_1 ?_
  obtain ⟨rfl, rfl⟩ := so2 h1
  exact b_lret C dX1_parsedLow_4 hr
def rmX2_readTextInto : Room := { frames := 4, cells := 0, slots := 0, locals := 96 }
def fX2_readTextInto (N : Nat) (σ : St) (a1 : Nat) (a2 : Int32) (a3 : Int32) : Option (Int32 × St) :=
  bd2 (fX1_parse N σ (gI σ 2)) fun r7 σ6 =>
  if r7 = (-1 : Int32) then (
  bd2 (fX1_parsedLow σ6) fun r13 σ12 =>
  bd2 (fX1_parsedHigh σ12) fun r16 σ15 =>
  if isT a1 = false then none else
  bd0 (fX0_put σ15 a1 a2 a3 r13 r16) fun σ20 =>
  some ((1 : Int32), σ20))
  else (
  some (((-100 : Int32) - r7), σ6))
theorem ctX2_readTextInto {l : Launch} {ad : Nat → Nat} {ca : Nat → ClassId} {N : Nat} {σ : St} {a1 : Nat} {a2 : Int32} {a3 : Int32} {rf : Int32} {σf : St} (h : fX2_readTextInto N σ a1 a2 a3 = some (rf, σf)) : Cw l yX2_readTextInto cX2_readTextInto 5 (some .int) rmX2_readTextInto [.ref (ad 0), .ref (ad a1), .int a2, .int a3] (wX ad ca) (tyX ca) σ (some (.int rf)) σf := by
  refine Cw_of (by decide) (sameX ad ca) (Nat.le_of_ble_eq_true rfl) ?_
  intro p e s m args below meth c D A C X hr
  replace C : Cb p s m args meth c RX2 cX2_readTextInto 5 := C
  have h4 := h; clear h
  refine b_sub (lv' := [(0, .ref (ad 0)), (1, .ref (ad a1)), (2, .int a2), (3, .int a3)]) [0, 1, 2, 3] rfl ?_
  refine b_aload_n C 0 dX2_readTextInto_0 rfl rfl ?_
  refine gX2_12 C X dX2_readTextInto_1 ?_
  refine b_aload_n C 0 dX2_readTextInto_4 rfl rfl ?_
  refine gX2_83 C X dX2_readTextInto_5 ?_
  obtain ⟨r7, σ6, ec5, h5⟩ := bd2_inv h4; clear h4
  refine b_callWi (rest := []) C (sameX ad ca) X dX2_readTextInto_8 (ctX1_parse ec5) mf_X1_parse mi_X1_parse kl_X2_180 1 rfl rfl rfl rfl ⟨rfl, rfl⟩ ⟨Nat.le_of_ble_eq_true rfl, Nat.le_of_ble_eq_true rfl⟩ ⟨Nat.zero_le _, Nat.zero_le _⟩ rfl (Nat.le_of_ble_eq_true rfl) ?_
  refine b_istore (lv' := [(4, .int r7), (0, .ref (ad 0)), (1, .ref (ad a1)), (2, .int a2), (3, .int a3)]) C dX2_readTextInto_11 (by decide) rfl ?_
  refine b_iload C 0 dX2_readTextInto_13 rfl ?_
  refine b_iconst (v := (-1 : Int32)) C dX2_readTextInto_15 (by decide) ?_
  refine b_icmp_eq (tgt := 25) C dX2_readTextInto_16 (by decide) (fun c8 => ?_) (fun c8 => ?_)
  · have h9 := ipos h5 c8; clear h5
    refine b_aload_n C 2 dX2_readTextInto_25 rfl rfl ?_
    refine b_iload_n C 3 dX2_readTextInto_26 rfl rfl ?_
    refine b_iload_n C 4 dX2_readTextInto_27 rfl rfl ?_
    refine b_aload_n C 1 dX2_readTextInto_28 rfl rfl ?_
    refine gX2_12 C X dX2_readTextInto_29 ?_
    obtain ⟨r13, σ12, ec11, h11⟩ := bd2_inv h9; clear h9
    refine b_callWl (rest := [.int a3, .int a2, .ref (ad a1)]) C (sameX ad ca) X dX2_readTextInto_32 (ctX1_parsedLow ec11) mf_X1_parsedLow mi_X1_parsedLow kl_X2_183 1 rfl rfl rfl rfl ⟨rfl, rfl⟩ ⟨Nat.le_of_ble_eq_true rfl, Nat.le_of_ble_eq_true rfl⟩ ⟨Nat.zero_le _, Nat.zero_le _⟩ rfl (Nat.le_of_ble_eq_true rfl) ?_
    refine b_aload_n C 1 dX2_readTextInto_35 rfl rfl ?_
    refine gX2_12 C X dX2_readTextInto_36 ?_
    obtain ⟨r16, σ15, ec14, h14⟩ := bd2_inv h11; clear h11
    refine b_callWl (rest := [.long r13, .int a3, .int a2, .ref (ad a1)]) C (sameX ad ca) X dX2_readTextInto_39 (ctX1_parsedHigh ec14) mf_X1_parsedHigh mi_X1_parsedHigh kl_X2_187 1 rfl rfl rfl rfl ⟨rfl, rfl⟩ ⟨Nat.le_of_ble_eq_true rfl, Nat.le_of_ble_eq_true rfl⟩ ⟨Nat.zero_le _, Nat.zero_le _⟩ rfl (Nat.le_of_ble_eq_true rfl) ?_
    obtain ⟨g18, h17⟩ := gdn h14; clear h14
    obtain ⟨σ20, ec19, h19⟩ := bd0_inv h17; clear h17
    refine b_callTv (rest := []) C (sameX ad ca) X dX2_readTextInto_42 (ctX0_put ec19) mf_X0_put mi_X0_put kl_X2_190 (nb g18) rfl rfl ⟨rfl, rfl⟩ ⟨Nat.le_of_ble_eq_true rfl, Nat.le_of_ble_eq_true rfl⟩ ⟨Nat.zero_le _, Nat.zero_le _⟩ rfl (Nat.le_of_ble_eq_true rfl) ?_
    refine b_iconst (v := (1 : Int32)) C dX2_readTextInto_45 (by decide) ?_
    obtain ⟨rfl, rfl⟩ := so2 h19
    exact b_iret C dX2_readTextInto_46 hr
  have h10 := ineg h5 c8; clear h5
  refine b_bipush (v := (-100 : Int32)) C dX2_readTextInto_19 (by decide) ?_
  refine b_iload C 0 dX2_readTextInto_21 rfl ?_
  refine b_isub C dX2_readTextInto_23 ?_
  obtain ⟨rfl, rfl⟩ := so2 h10
  exact b_iret C dX2_readTextInto_24 hr
def rmX2_readInput : Room := { frames := 5, cells := 0, slots := 0, locals := 120 }
def fX2_readInput (N : Nat) (σ : St) (a1 : Int32) : Option (Int32 × St) :=
  bd2 (fX2_isNode σ a1) fun r5 σ4 =>
  if r5 = (0 : Int32) then (
  some ((-1001 : Int32), σ4))
  else (
  if (gI σ4 3) = (0 : Int32) then (
  bd2 (fX2_readTextInto N σ4 3 (0 : Int32) a1) fun r14 σ13 =>
  some (r14, σ13))
  else (
  some ((-1003 : Int32), σ4)))
theorem ctX2_readInput {l : Launch} {ad : Nat → Nat} {ca : Nat → ClassId} {N : Nat} {σ : St} {a1 : Int32} {rf : Int32} {σf : St} (h : fX2_readInput N σ a1 = some (rf, σf)) : Cw l yX2_readInput cX2_readInput 2 (some .int) rmX2_readInput [.ref (ad 0), .int a1] (wX ad ca) (tyX ca) σ (some (.int rf)) σf := by
  refine Cw_of (by decide) (sameX ad ca) (Nat.le_of_ble_eq_true rfl) ?_
  intro p e s m args below meth c D A C X hr
  replace C : Cb p s m args meth c RX2 cX2_readInput 2 := C
  have h2 := h; clear h
  refine b_sub (lv' := [(0, .ref (ad 0)), (1, .int a1)]) [0, 1] rfl ?_
  refine b_aload_n C 0 dX2_readInput_0 rfl rfl ?_
  refine b_iload_n C 1 dX2_readInput_1 rfl rfl ?_
  obtain ⟨r5, σ4, ec3, h3⟩ := bd2_inv h2; clear h2
  refine b_callWi (rest := []) C (sameX ad ca) X dX2_readInput_2 (ctX2_isNode ec3) mf_X2_isNode mi_X2_isNode kl_X2_68 0 rfl rfl rfl rfl ⟨rfl, rfl⟩ ⟨Nat.le_of_ble_eq_true rfl, Nat.le_of_ble_eq_true rfl⟩ ⟨Nat.zero_le _, Nat.zero_le _⟩ rfl (Nat.le_of_ble_eq_true rfl) ?_
  refine b_if_ne (tgt := 12) C dX2_readInput_5 (by decide) (fun c6 => ?_) (fun c6 => ?_)
  · have h7 := ineg h3 c6; clear h3
    refine b_aload_n C 0 dX2_readInput_12 rfl rfl ?_
    refine gX2_72 C X dX2_readInput_13 ?_
    refine b_if_eq (tgt := 23) C dX2_readInput_16 (by decide) (fun c9 => ?_) (fun c9 => ?_)
    · have h10 := ipos h7 c9; clear h7
      refine b_aload_n C 0 dX2_readInput_23 rfl rfl ?_
      refine b_aload_n C 0 dX2_readInput_24 rfl rfl ?_
      refine gX2_23 C X dX2_readInput_25 ?_
      refine b_iconst (v := (0 : Int32)) C dX2_readInput_28 (by decide) ?_
      refine b_iload_n C 1 dX2_readInput_29 rfl rfl ?_
      obtain ⟨r14, σ13, ec12, h12⟩ := bd2_inv h10; clear h10
      refine b_callWi (rest := []) C (sameX ad ca) X dX2_readInput_30 (ctX2_readTextInto ec12) mf_X2_readTextInto mi_X2_readTextInto kl_X2_75 0 rfl rfl rfl rfl ⟨rfl, rfl⟩ ⟨Nat.le_of_ble_eq_true rfl, Nat.le_of_ble_eq_true rfl⟩ ⟨Nat.zero_le _, Nat.zero_le _⟩ rfl (Nat.le_of_ble_eq_true rfl) ?_
      obtain ⟨rfl, rfl⟩ := so2 h12
      exact b_iret C dX2_readInput_33 hr
    have h11 := ineg h7 c9; clear h7
    refine b_sipush (v := (-1003 : Int32)) C dX2_readInput_19 (by decide) ?_
    obtain ⟨rfl, rfl⟩ := so2 h11
    exact b_iret C dX2_readInput_22 hr
  have h8 := ipos h3 c6; clear h3
  refine b_sipush (v := (-1001 : Int32)) C dX2_readInput_8 (by decide) ?_
  obtain ⟨rfl, rfl⟩ := so2 h8
  exact b_iret C dX2_readInput_11 hr
def rmX2_areTwoNodes : Room := { frames := 1, cells := 0, slots := 0, locals := 21 }
def fX2_areTwoNodes (σ : St) (a1 : Int32) (a2 : Int32) : Option (Int32 × St) :=
  bd2 (fX2_isNode σ a1) fun r6 σ5 =>
  if r6 = (0 : Int32) then (
  some ((0 : Int32), σ5))
  else (
  bd2 (fX2_isNode σ5 a2) fun r12 σ11 =>
  if r12 = (0 : Int32) then (
  some ((0 : Int32), σ11))
  else (
  if a1 = a2 then (
  some ((0 : Int32), σ11))
  else (
  some ((1 : Int32), σ11))))
theorem ctX2_areTwoNodes {l : Launch} {ad : Nat → Nat} {ca : Nat → ClassId} {σ : St} {a1 : Int32} {a2 : Int32} {rf : Int32} {σf : St} (h : fX2_areTwoNodes σ a1 a2 = some (rf, σf)) : Cw l yX2_areTwoNodes cX2_areTwoNodes 3 (some .boolean) rmX2_areTwoNodes [.ref (ad 0), .int a1, .int a2] (wX ad ca) (tyX ca) σ (some (.int rf)) σf := by
  refine Cw_of (by decide) (sameX ad ca) (Nat.le_of_ble_eq_true rfl) ?_
  intro p e s m args below meth c D A C X hr
  replace C : Cb p s m args meth c RX2 cX2_areTwoNodes 3 := C
  have h3 := h; clear h
  refine b_sub (lv' := [(0, .ref (ad 0)), (1, .int a1), (2, .int a2)]) [0, 1, 2] rfl ?_
  refine b_aload_n C 0 dX2_areTwoNodes_0 rfl rfl ?_
  refine b_iload_n C 1 dX2_areTwoNodes_1 rfl rfl ?_
  obtain ⟨r6, σ5, ec4, h4⟩ := bd2_inv h3; clear h3
  refine b_callWi (rest := []) C (sameX ad ca) X dX2_areTwoNodes_2 (ctX2_isNode ec4) mf_X2_isNode mi_X2_isNode kl_X2_68 0 rfl rfl rfl rfl ⟨rfl, rfl⟩ ⟨Nat.le_of_ble_eq_true rfl, Nat.le_of_ble_eq_true rfl⟩ ⟨Nat.zero_le _, Nat.zero_le _⟩ rfl (Nat.le_of_ble_eq_true rfl) ?_
  refine b_if_eq (tgt := 25) C dX2_areTwoNodes_5 (by decide) (fun c7 => ?_) (fun c7 => ?_)
  · have h8 := ipos h4 c7; clear h4
    refine b_iconst (v := (0 : Int32)) C dX2_areTwoNodes_25 (by decide) ?_
    obtain ⟨rfl, rfl⟩ := so2 h8
    exact b_zret C dX2_areTwoNodes_26 hr rfl
  have h9 := ineg h4 c7; clear h4
  refine b_aload_n C 0 dX2_areTwoNodes_8 rfl rfl ?_
  refine b_iload_n C 2 dX2_areTwoNodes_9 rfl rfl ?_
  obtain ⟨r12, σ11, ec10, h10⟩ := bd2_inv h9; clear h9
  refine b_callWi (rest := []) C (sameX ad ca) X dX2_areTwoNodes_10 (ctX2_isNode ec10) mf_X2_isNode mi_X2_isNode kl_X2_68 0 rfl rfl rfl rfl ⟨rfl, rfl⟩ ⟨Nat.le_of_ble_eq_true rfl, Nat.le_of_ble_eq_true rfl⟩ ⟨Nat.zero_le _, Nat.zero_le _⟩ rfl (Nat.le_of_ble_eq_true rfl) ?_
  refine b_if_eq (tgt := 25) C dX2_areTwoNodes_13 (by decide) (fun c13 => ?_) (fun c13 => ?_)
  · have h14 := ipos h10 c13; clear h10
    refine b_iconst (v := (0 : Int32)) C dX2_areTwoNodes_25 (by decide) ?_
    obtain ⟨rfl, rfl⟩ := so2 h14
    exact b_zret C dX2_areTwoNodes_26 hr rfl
  have h15 := ineg h10 c13; clear h10
  refine b_iload_n C 1 dX2_areTwoNodes_16 rfl rfl ?_
  refine b_iload_n C 2 dX2_areTwoNodes_17 rfl rfl ?_
  refine b_icmp_eq (tgt := 25) C dX2_areTwoNodes_18 (by decide) (fun c16 => ?_) (fun c16 => ?_)
  · have h17 := ipos h15 c16; clear h15
    refine b_iconst (v := (0 : Int32)) C dX2_areTwoNodes_25 (by decide) ?_
    obtain ⟨rfl, rfl⟩ := so2 h17
    exact b_zret C dX2_areTwoNodes_26 hr rfl
  have h18 := ineg h15 c16; clear h15
  refine b_iconst (v := (1 : Int32)) C dX2_areTwoNodes_21 (by decide) ?_
  refine b_goto (tgt := 26) C dX2_areTwoNodes_22 (by decide) ?_
  obtain ⟨rfl, rfl⟩ := so2 h18
  exact b_zret C dX2_areTwoNodes_26 hr rfl
def rmX2_readLie : Room := { frames := 5, cells := 0, slots := 0, locals := 120 }
def fX2_readLie (N : Nat) (σ : St) (a1 : Int32) (a2 : Int32) : Option (Int32 × St) :=
  bd2 (fX2_areTwoNodes σ a1 a2) fun r6 σ5 =>
  if r6 = (0 : Int32) then (
  some ((-1001 : Int32), σ5))
  else (
  bd2 (fX2_readTextInto N σ5 6 a1 a2) fun r12 σ11 =>
  some (r12, σ11))
theorem ctX2_readLie {l : Launch} {ad : Nat → Nat} {ca : Nat → ClassId} {N : Nat} {σ : St} {a1 : Int32} {a2 : Int32} {rf : Int32} {σf : St} (h : fX2_readLie N σ a1 a2 = some (rf, σf)) : Cw l yX2_readLie cX2_readLie 3 (some .int) rmX2_readLie [.ref (ad 0), .int a1, .int a2] (wX ad ca) (tyX ca) σ (some (.int rf)) σf := by
  refine Cw_of (by decide) (sameX ad ca) (Nat.le_of_ble_eq_true rfl) ?_
  intro p e s m args below meth c D A C X hr
  replace C : Cb p s m args meth c RX2 cX2_readLie 3 := C
  have h3 := h; clear h
  refine b_sub (lv' := [(0, .ref (ad 0)), (1, .int a1), (2, .int a2)]) [0, 1, 2] rfl ?_
  refine b_aload_n C 0 dX2_readLie_0 rfl rfl ?_
  refine b_iload_n C 1 dX2_readLie_1 rfl rfl ?_
  refine b_iload_n C 2 dX2_readLie_2 rfl rfl ?_
  obtain ⟨r6, σ5, ec4, h4⟩ := bd2_inv h3; clear h3
  refine b_callWi (rest := []) C (sameX ad ca) X dX2_readLie_3 (ctX2_areTwoNodes ec4) mf_X2_areTwoNodes mi_X2_areTwoNodes kl_X2_79 0 rfl rfl rfl rfl ⟨rfl, rfl⟩ ⟨Nat.le_of_ble_eq_true rfl, Nat.le_of_ble_eq_true rfl⟩ ⟨Nat.zero_le _, Nat.zero_le _⟩ rfl (Nat.le_of_ble_eq_true rfl) ?_
  refine b_if_ne (tgt := 13) C dX2_readLie_6 (by decide) (fun c7 => ?_) (fun c7 => ?_)
  · have h8 := ineg h4 c7; clear h4
    refine b_aload_n C 0 dX2_readLie_13 rfl rfl ?_
    refine b_aload_n C 0 dX2_readLie_14 rfl rfl ?_
    refine gX2_27 C X dX2_readLie_15 ?_
    refine b_iload_n C 1 dX2_readLie_18 rfl rfl ?_
    refine b_iload_n C 2 dX2_readLie_19 rfl rfl ?_
    obtain ⟨r12, σ11, ec10, h10⟩ := bd2_inv h8; clear h8
    refine b_callWi (rest := []) C (sameX ad ca) X dX2_readLie_20 (ctX2_readTextInto ec10) mf_X2_readTextInto mi_X2_readTextInto kl_X2_75 0 rfl rfl rfl rfl ⟨rfl, rfl⟩ ⟨Nat.le_of_ble_eq_true rfl, Nat.le_of_ble_eq_true rfl⟩ ⟨Nat.zero_le _, Nat.zero_le _⟩ rfl (Nat.le_of_ble_eq_true rfl) ?_
    obtain ⟨rfl, rfl⟩ := so2 h10
    exact b_iret C dX2_readLie_23 hr
  have h9 := ipos h4 c7; clear h4
  refine b_sipush (v := (-1001 : Int32)) C dX2_readLie_9 (by decide) ?_
  obtain ⟨rfl, rfl⟩ := so2 h9
  exact b_iret C dX2_readLie_12 hr
def rmX2_isGuaranteed : Room := { frames := 2, cells := 0, slots := 0, locals := 47 }
def fX2_isGuaranteed (N : Nat) (σ : St) : Option (Int32 × St) :=
  bd2 (fX2_linksWithDelay N σ (0 : Int32)) fun r4 σ3 =>
  if r4 = ((gI σ3 0) * ((gI σ3 0) - (1 : Int32))) then (
  bd2 (fX2_faultyNodes N σ3) fun r10 σ9 =>
  if (gI σ9 1) < r10 then (
  some ((0 : Int32), σ9))
  else (
  if (gI σ9 0) ≤ ((3 : Int32) * (gI σ9 1)) then (
  some ((0 : Int32), σ9))
  else (
  if (gI σ9 4) = (2 : Int32) then (
  some ((0 : Int32), σ9))
  else (
  some ((1 : Int32), σ9)))))
  else (
  some ((0 : Int32), σ3))
theorem ctX2_isGuaranteed {l : Launch} {ad : Nat → Nat} {ca : Nat → ClassId} {N : Nat} {σ : St} {rf : Int32} {σf : St} (h : fX2_isGuaranteed N σ = some (rf, σf)) : Cw l yX2_isGuaranteed cX2_isGuaranteed 1 (some .boolean) rmX2_isGuaranteed [.ref (ad 0)] (wX ad ca) (tyX ca) σ (some (.int rf)) σf := by
  refine Cw_of (by decide) (sameX ad ca) (Nat.le_of_ble_eq_true rfl) ?_
  intro p e s m args below meth c D A C X hr
  replace C : Cb p s m args meth c RX2 cX2_isGuaranteed 1 := C
  have h1 := h; clear h
  refine b_sub (lv' := [(0, .ref (ad 0))]) [0] rfl ?_
  refine b_aload_n C 0 dX2_isGuaranteed_0 rfl rfl ?_
  refine b_iconst (v := (0 : Int32)) C dX2_isGuaranteed_1 (by decide) ?_
  obtain ⟨r4, σ3, ec2, h2⟩ := bd2_inv h1; clear h1
  refine b_callWi (rest := []) C (sameX ad ca) X dX2_isGuaranteed_2 (ctX2_linksWithDelay ec2) mf_X2_linksWithDelay mi_X2_linksWithDelay kl_X2_107 0 rfl rfl rfl rfl ⟨rfl, rfl⟩ ⟨Nat.le_of_ble_eq_true rfl, Nat.le_of_ble_eq_true rfl⟩ ⟨Nat.zero_le _, Nat.zero_le _⟩ rfl (Nat.le_of_ble_eq_true rfl) ?_
  refine b_aload_n C 0 dX2_isGuaranteed_5 rfl rfl ?_
  refine gX2_53 C X dX2_isGuaranteed_6 ?_
  refine b_aload_n C 0 dX2_isGuaranteed_9 rfl rfl ?_
  refine gX2_53 C X dX2_isGuaranteed_10 ?_
  refine b_iconst (v := (1 : Int32)) C dX2_isGuaranteed_13 (by decide) ?_
  refine b_isub C dX2_isGuaranteed_14 ?_
  refine b_imul C dX2_isGuaranteed_15 ?_
  refine b_icmp_ne (tgt := 55) C dX2_isGuaranteed_16 (by decide) (fun c5 => ?_) (fun c5 => ?_)
  · have h6 := ineg h2 c5; clear h2
    refine b_iconst (v := (0 : Int32)) C dX2_isGuaranteed_55 (by decide) ?_
    obtain ⟨rfl, rfl⟩ := so2 h6
    exact b_zret C dX2_isGuaranteed_56 hr rfl
  have h7 := ipos h2 c5; clear h2
  refine b_aload_n C 0 dX2_isGuaranteed_19 rfl rfl ?_
  obtain ⟨r10, σ9, ec8, h8⟩ := bd2_inv h7; clear h7
  refine b_callWi (rest := []) C (sameX ad ca) X dX2_isGuaranteed_20 (ctX2_faultyNodes ec8) mf_X2_faultyNodes mi_X2_faultyNodes kl_X2_104 0 rfl rfl rfl rfl ⟨rfl, rfl⟩ ⟨Nat.le_of_ble_eq_true rfl, Nat.le_of_ble_eq_true rfl⟩ ⟨Nat.zero_le _, Nat.zero_le _⟩ rfl (Nat.le_of_ble_eq_true rfl) ?_
  refine b_aload_n C 0 dX2_isGuaranteed_23 rfl rfl ?_
  refine gX2_101 C X dX2_isGuaranteed_24 ?_
  refine b_icmp_gt (tgt := 55) C dX2_isGuaranteed_27 (by decide) (fun c11 => ?_) (fun c11 => ?_)
  · have h12 := ipos h8 c11; clear h8
    refine b_iconst (v := (0 : Int32)) C dX2_isGuaranteed_55 (by decide) ?_
    obtain ⟨rfl, rfl⟩ := so2 h12
    exact b_zret C dX2_isGuaranteed_56 hr rfl
  have h13 := ineg h8 c11; clear h8
  refine b_aload_n C 0 dX2_isGuaranteed_30 rfl rfl ?_
  refine gX2_53 C X dX2_isGuaranteed_31 ?_
  refine b_iconst (v := (3 : Int32)) C dX2_isGuaranteed_34 (by decide) ?_
  refine b_aload_n C 0 dX2_isGuaranteed_35 rfl rfl ?_
  refine gX2_101 C X dX2_isGuaranteed_36 ?_
  refine b_imul C dX2_isGuaranteed_39 ?_
  refine b_icmp_le (tgt := 55) C dX2_isGuaranteed_40 (by decide) (fun c14 => ?_) (fun c14 => ?_)
  · have h15 := ipos h13 c14; clear h13
    refine b_iconst (v := (0 : Int32)) C dX2_isGuaranteed_55 (by decide) ?_
    obtain ⟨rfl, rfl⟩ := so2 h15
    exact b_zret C dX2_isGuaranteed_56 hr rfl
  have h16 := ineg h13 c14; clear h13
  refine b_aload_n C 0 dX2_isGuaranteed_43 rfl rfl ?_
  refine gX2_98 C X dX2_isGuaranteed_44 ?_
  refine b_iconst (v := (2 : Int32)) C dX2_isGuaranteed_47 (by decide) ?_
  refine b_icmp_eq (tgt := 55) C dX2_isGuaranteed_48 (by decide) (fun c17 => ?_) (fun c17 => ?_)
  · have h18 := ipos h16 c17; clear h16
    refine b_iconst (v := (0 : Int32)) C dX2_isGuaranteed_55 (by decide) ?_
    obtain ⟨rfl, rfl⟩ := so2 h18
    exact b_zret C dX2_isGuaranteed_56 hr rfl
  have h19 := ineg h16 c17; clear h16
  refine b_iconst (v := (1 : Int32)) C dX2_isGuaranteed_51 (by decide) ?_
  refine b_goto (tgt := 56) C dX2_isGuaranteed_52 (by decide) ?_
  obtain ⟨rfl, rfl⟩ := so2 h19
  exact b_zret C dX2_isGuaranteed_56 hr rfl
def rmX2_guarantee : Room := { frames := 3, cells := 0, slots := 0, locals := 67 }
def fX2_guarantee (N : Nat) (σ : St) (a1 : Int32) : Option (Int64 × St) :=
  bd2 (fX2_isGuaranteed N σ) fun r5 σ4 =>
  if r5 = (0 : Int32) then (
  some ((-9223372036854775808 : Int64), σ4))
  else (
  if (gI σ4 1) = (0 : Int32) then (
  bd0 (fX2_inLowestTerms N (0 : Int64) (1 : Int64) a1) fun r27 =>
  some (r27, σ4))
  else (
  if (gI σ4 4) = (0 : Int32) then (
  bd0 (fX2_inLowestTerms N ((gI σ4 1).toInt64) (((gI σ4 0) - ((2 : Int32) * (gI σ4 1))).toInt64) a1) fun r16 =>
  some (r16, σ4))
  else if (gI σ4 4) = (1 : Int32) then (
  bd0 (fX2_inLowestTerms N (1 : Int64) (2 : Int64) a1) fun r21 =>
  some (r21, σ4))
  else (
  if (gI σ4 1) = (0 : Int32) then none else
  bd0 (fX2_inLowestTerms N (1 : Int64) ((((((gI σ4 0) - ((2 : Int32) * (gI σ4 1))) - (1 : Int32)) / (gI σ4 1)) + (1 : Int32)).toInt64) a1) fun r25 =>
  some (r25, σ4))))
theorem ctX2_guarantee {l : Launch} {ad : Nat → Nat} {ca : Nat → ClassId} {N : Nat} {σ : St} {a1 : Int32} {rf : Int64} {σf : St} (h : fX2_guarantee N σ a1 = some (rf, σf)) : Cw l yX2_guarantee cX2_guarantee 2 (some .long) rmX2_guarantee [.ref (ad 0), .int a1] (wX ad ca) (tyX ca) σ (some (.long rf)) σf := by
  refine Cw_of (by decide) (sameX ad ca) (Nat.le_of_ble_eq_true rfl) ?_
  intro p e s m args below meth c D A C X hr
  replace C : Cb p s m args meth c RX2 cX2_guarantee 2 := C
  have h2 := h; clear h
  refine b_sub (lv' := [(0, .ref (ad 0)), (1, .int a1)]) [0, 1] rfl ?_
  refine b_aload_n C 0 dX2_guarantee_0 rfl rfl ?_
  obtain ⟨r5, σ4, ec3, h3⟩ := bd2_inv h2; clear h2
  refine b_callWi (rest := []) C (sameX ad ca) X dX2_guarantee_1 (ctX2_isGuaranteed ec3) mf_X2_isGuaranteed mi_X2_isGuaranteed kl_X2_162 0 rfl rfl rfl rfl ⟨rfl, rfl⟩ ⟨Nat.le_of_ble_eq_true rfl, Nat.le_of_ble_eq_true rfl⟩ ⟨Nat.zero_le _, Nat.zero_le _⟩ rfl (Nat.le_of_ble_eq_true rfl) ?_
  refine b_if_ne (tgt := 11) C dX2_guarantee_4 (by decide) (fun c6 => ?_) (fun c6 => ?_)
  · have h7 := ineg h3 c6; clear h3
    refine b_aload_n C 0 dX2_guarantee_11 rfl rfl ?_
    refine gX2_101 C X dX2_guarantee_12 ?_
    refine b_if_ne (tgt := 25) C dX2_guarantee_15 (by decide) (fun c9 => ?_) (fun c9 => ?_)
    · have h10 := ineg h7 c9; clear h7
      refine b_aload_n C 0 dX2_guarantee_25 rfl rfl ?_
      refine gX2_98 C X dX2_guarantee_26 ?_
      rcases Classical.em ((gI σ4 4) = (0 : Int32)) with c12 | c12
      · have h13 := ipos h10 c12; clear h10
        refine b_lsw (tgt := 56) (off := 27) C dX2_guarantee_29 (by decide) (by rw [c12]; decide) (by decide) ?_
        refine b_aload_n C 0 dX2_guarantee_56 rfl rfl ?_
        refine gX2_101 C X dX2_guarantee_57 ?_
        refine b_i2l C dX2_guarantee_60 ?_
        refine b_aload_n C 0 dX2_guarantee_61 rfl rfl ?_
        refine gX2_53 C X dX2_guarantee_62 ?_
        refine b_iconst (v := (2 : Int32)) C dX2_guarantee_65 (by decide) ?_
        refine b_aload_n C 0 dX2_guarantee_66 rfl rfl ?_
        refine gX2_101 C X dX2_guarantee_67 ?_
        refine b_imul C dX2_guarantee_70 ?_
        refine b_isub C dX2_guarantee_71 ?_
        refine b_i2l C dX2_guarantee_72 ?_
        refine b_iload_n C 1 dX2_guarantee_73 rfl rfl ?_
        obtain ⟨r16, ec15, h15⟩ := bd0_inv h13; clear h13
        refine b_callSl (rest := []) C dX2_guarantee_74 (ctX2_inLowestTerms ec15) mf_X2_inLowestTerms ms_X2_inLowestTerms kl_X2_158 rfl ⟨rfl, rfl⟩ ⟨Nat.le_of_ble_eq_true rfl, Nat.le_of_ble_eq_true rfl⟩ ⟨Nat.zero_le _, Nat.zero_le _⟩ rfl (Nat.le_of_ble_eq_true rfl) ?_
        obtain ⟨rfl, rfl⟩ := so2 h15
        exact b_lret C dX2_guarantee_77 hr
      have h14 := ineg h10 c12; clear h10
      rcases Classical.em ((gI σ4 4) = (1 : Int32)) with c17 | c17
      · have h18 := ipos h14 c17; clear h14
        refine b_lsw (tgt := 78) (off := 49) C dX2_guarantee_29 (by decide) (by rw [c17]; decide) (by decide) ?_
        refine b_lconst (v := (1 : Int64)) C dX2_guarantee_78 (by decide) ?_
        refine b_ldc2 (v := (2 : Int64)) C dX2_guarantee_79 kc_X2_166 ?_
        refine b_iload_n C 1 dX2_guarantee_82 rfl rfl ?_
        obtain ⟨r21, ec20, h20⟩ := bd0_inv h18; clear h18
        refine b_callSl (rest := []) C dX2_guarantee_83 (ctX2_inLowestTerms ec20) mf_X2_inLowestTerms ms_X2_inLowestTerms kl_X2_158 rfl ⟨rfl, rfl⟩ ⟨Nat.le_of_ble_eq_true rfl, Nat.le_of_ble_eq_true rfl⟩ ⟨Nat.zero_le _, Nat.zero_le _⟩ rfl (Nat.le_of_ble_eq_true rfl) ?_
        obtain ⟨rfl, rfl⟩ := so2 h20
        exact b_lret C dX2_guarantee_86 hr
      have h19 := ineg h14 c17; clear h14
      refine b_lsw (tgt := 87) (off := 58) C dX2_guarantee_29 (by decide) (by have q0 := i32_ne c12 (z := 0) (by decide); have q1 := i32_ne c17 (z := 1) (by decide); exact lsw_out2 q0 q1) (by decide) ?_
      refine b_lconst (v := (1 : Int64)) C dX2_guarantee_87 (by decide) ?_
      refine b_aload_n C 0 dX2_guarantee_88 rfl rfl ?_
      refine gX2_53 C X dX2_guarantee_89 ?_
      refine b_iconst (v := (2 : Int32)) C dX2_guarantee_92 (by decide) ?_
      refine b_aload_n C 0 dX2_guarantee_93 rfl rfl ?_
      refine gX2_101 C X dX2_guarantee_94 ?_
      refine b_imul C dX2_guarantee_97 ?_
      refine b_isub C dX2_guarantee_98 ?_
      refine b_iconst (v := (1 : Int32)) C dX2_guarantee_99 (by decide) ?_
      refine b_isub C dX2_guarantee_100 ?_
      refine b_aload_n C 0 dX2_guarantee_101 rfl rfl ?_
      refine gX2_101 C X dX2_guarantee_102 ?_
      obtain ⟨g23, h22⟩ := gdn h19; clear h19
      refine b_idiv C dX2_guarantee_105 g23 ?_
      refine b_iconst (v := (1 : Int32)) C dX2_guarantee_106 (by decide) ?_
      refine b_iadd C dX2_guarantee_107 ?_
      refine b_i2l C dX2_guarantee_108 ?_
      refine b_iload_n C 1 dX2_guarantee_109 rfl rfl ?_
      obtain ⟨r25, ec24, h24⟩ := bd0_inv h22; clear h22
      refine b_callSl (rest := []) C dX2_guarantee_110 (ctX2_inLowestTerms ec24) mf_X2_inLowestTerms ms_X2_inLowestTerms kl_X2_158 rfl ⟨rfl, rfl⟩ ⟨Nat.le_of_ble_eq_true rfl, Nat.le_of_ble_eq_true rfl⟩ ⟨Nat.zero_le _, Nat.zero_le _⟩ rfl (Nat.le_of_ble_eq_true rfl) ?_
      obtain ⟨rfl, rfl⟩ := so2 h24
      exact b_lret C dX2_guarantee_113 hr
    have h11 := ipos h7 c9; clear h7
    refine b_lconst (v := (0 : Int64)) C dX2_guarantee_18 (by decide) ?_
    refine b_lconst (v := (1 : Int64)) C dX2_guarantee_19 (by decide) ?_
    refine b_iload_n C 1 dX2_guarantee_20 rfl rfl ?_
    obtain ⟨r27, ec26, h26⟩ := bd0_inv h11; clear h11
    refine b_callSl (rest := []) C dX2_guarantee_21 (ctX2_inLowestTerms ec26) mf_X2_inLowestTerms ms_X2_inLowestTerms kl_X2_158 rfl ⟨rfl, rfl⟩ ⟨Nat.le_of_ble_eq_true rfl, Nat.le_of_ble_eq_true rfl⟩ ⟨Nat.zero_le _, Nat.zero_le _⟩ rfl (Nat.le_of_ble_eq_true rfl) ?_
    obtain ⟨rfl, rfl⟩ := so2 h26
    exact b_lret C dX2_guarantee_24 hr
  have h8 := ipos h3 c6; clear h3
  refine b_ldc2 (v := (-9223372036854775808 : Int64)) C dX2_guarantee_7 kc_X2_128 ?_
  obtain ⟨rfl, rfl⟩ := so2 h8
  exact b_lret C dX2_guarantee_10 hr
def rmX2_outside : Room := { frames := 1, cells := 0, slots := 0, locals := 32 }
def fX2_outside_36b (N : Nat) (q108 : St → Int32 → Option (Int32 × St)) (q36 : St → Int64 → Int64 → Int32 → Int32 → Option (Int32 × St)) (σ15 : St) (x11 : Int64) (x12 : Int64) (x13 : Int32) (x14 : Int32) : Option (Int32 × St) :=
  if (gI σ15 0) ≤ x14 then (
  q108 σ15 x13)
  else (
  bd2 (fX2_isCorrect σ15 x14) fun r22 σ21 =>
  if r22 = (0 : Int32) then (
  lt1 (x14 + (1 : Int32)) fun x26 =>
  q36 σ21 x11 x12 x13 x26)
  else (
  bd2 (fX0_end σ21 3 (gI σ21 3) x14 (0 : Int32)) fun r30 σ29 =>
  if r30 < x11 then (
  lt1 (x13 ||| ((1 : Int32) <<< (x14 &&& 31))) fun x34 =>
  lt1 (x14 + (1 : Int32)) fun x36 =>
  q36 σ29 x11 x12 x34 x36)
  else (
  bd2 (fX0_end σ29 3 (gI σ29 3) x14 (1 : Int32)) fun r40 σ39 =>
  if r40 ≤ x12 then (
  lt1 (x14 + (1 : Int32)) fun x44 =>
  q36 σ39 x11 x12 x13 x44)
  else (
  lt1 (x13 ||| ((1 : Int32) <<< (x14 &&& 31))) fun x46 =>
  lt1 (x14 + (1 : Int32)) fun x48 =>
  q36 σ39 x11 x12 x46 x48))))
def fX2_outside_36 (N : Nat) (q108 : St → Int32 → Option (Int32 × St)) : Nat → St → Int64 → Int64 → Int32 → Int32 → Option (Int32 × St)
  | 0, _, _, _, _, _ => none
  | n + 1, σ, x11, x12, x13, x14 => fX2_outside_36b N q108 (fX2_outside_36 N q108 n) σ x11 x12 x13 x14
def fX2_outside (N : Nat) (σ : St) : Option (Int32 × St) :=
  bd2 (fX2_correctSet N σ) fun r4 σ3 =>
  bd2 (fX0_extremeEnd N σ3 3 (0 : Int32) r4 (0 : Int32) (0 : Int32)) fun r7 σ6 =>
  bd2 (fX0_extremeEnd N σ6 3 (0 : Int32) r4 (1 : Int32) (1 : Int32)) fun r10 σ9 =>
  fX2_outside_36 N (fun σ51 x50 =>
 some (x50, σ51)) N σ9 r7 r10 (0 : Int32) (0 : Int32)
theorem wX2_outside_36 {l : Launch} {p : Program} {e : Env} {s : State} {m : MethodId} {args : Array Value} {below : List Frame} {meth : Method} {c : Code} {D : va_G} {A : Nat → Prop} {ad : Nat → Nat} {ca : Nat → ClassId} {rf : Int32} {σf : St} (C : Cb p s m args meth c RX2 cX2_outside 8) (X : Cx s D A (wX ad ca) (tyX ca)) (hr : meth.sig.returnType = (some .int)) {N : Nat} {q108 : St → Int32 → Option (Int32 × St)} (hq108 : ∀ (σ : St) (y0 : Int32), q108 σ y0 = some (rf, σf) → bW p l e rmX2_outside s m args below meth c 0 0 (MQ below (Qw D (wX ad ca) σf (some (.int rf)) A) args s 0 0 A) 8 (wd D A (wX ad ca) s σ) 108 [(6, .int y0)] []) : ∀ n : Nat, ∀ (σ : St) (y0 : Int64) (y1 : Int64) (y2 : Int32) (y3 : Int32), fX2_outside_36 N q108 n σ y0 y1 y2 y3 = some (rf, σf) → bW p l e rmX2_outside s m args below meth c 0 0 (MQ below (Qw D (wX ad ca) σf (some (.int rf)) A) args s 0 0 A) 8 (wd D A (wX ad ca) s σ) 36 [(0, .ref (ad 0)), (2, .long y0), (4, .long y1), (6, .int y2), (7, .int y3)] [] := by
  intro n
  induction n with
  | zero => intro σ15 x11 x12 x13 x14 h16; exact nn h16
  | succ n hq36 =>
    intro σ15 x11 x12 x13 x14 h16
    replace h16 : fX2_outside_36b N q108 (fX2_outside_36 N q108 n) σ15 x11 x12 x13 x14 = some (rf, σf) := h16
    refine b_iload C 4 dX2_outside_36 rfl ?_
    refine b_aload_n C 0 dX2_outside_38 rfl rfl ?_
    refine gX2_53 C X dX2_outside_39 ?_
    refine b_icmp_ge (tgt := 108) C dX2_outside_42 (by decide) (fun c17 => ?_) (fun c17 => ?_)
    · have h18 := ipos h16 c17; clear h16
      exact b_sub [3] rfl (hq108 _ _ h18)
    have h19 := ineg h16 c17; clear h16
    refine b_aload_n C 0 dX2_outside_45 rfl rfl ?_
    refine b_iload C 4 dX2_outside_46 rfl ?_
    obtain ⟨r22, σ21, ec20, h20⟩ := bd2_inv h19; clear h19
    refine b_callWi (rest := []) C (sameX ad ca) X dX2_outside_48 (ctX2_isCorrect ec20) mf_X2_isCorrect mi_X2_isCorrect kl_X2_125 0 rfl rfl rfl rfl ⟨rfl, rfl⟩ ⟨Nat.le_of_ble_eq_true rfl, Nat.le_of_ble_eq_true rfl⟩ ⟨Nat.zero_le _, Nat.zero_le _⟩ rfl (Nat.le_of_ble_eq_true rfl) ?_
    refine b_if_eq (tgt := 102) C dX2_outside_51 (by decide) (fun c23 => ?_) (fun c23 => ?_)
    · have h24 := ipos h20 c23; clear h20
      obtain ⟨x26, ex26, h27⟩ := lt1_inv h24; clear h24
      refine b_iinc (v := x26) (lv' := [(7, .int x26), (0, .ref (ad 0)), (2, .long x11), (4, .long x12), (6, .int x13)]) C 4 dX2_outside_102 rfl (by rw [ex26]; rfl) (by decide) rfl ?_
      refine b_goto (tgt := 36) C dX2_outside_105 (by decide) ?_
      exact b_sub [1, 2, 3, 4, 0] rfl (hq36 _ _ _ _ _ h27)
    have h25 := ineg h20 c23; clear h20
    refine b_aload_n C 0 dX2_outside_54 rfl rfl ?_
    refine gX2_23 C X dX2_outside_55 ?_
    refine b_aload_n C 0 dX2_outside_58 rfl rfl ?_
    refine gX2_72 C X dX2_outside_59 ?_
    refine b_iload C 4 dX2_outside_62 rfl ?_
    refine b_iconst (v := (0 : Int32)) C dX2_outside_64 (by decide) ?_
    obtain ⟨r30, σ29, ec28, h28⟩ := bd2_inv h25; clear h25
    refine b_callWl (rest := []) C (sameX ad ca) X dX2_outside_65 (ctX0_end ec28) mf_X0_end mi_X0_end kl_X2_130 3 rfl rfl rfl rfl ⟨rfl, rfl⟩ ⟨Nat.le_of_ble_eq_true rfl, Nat.le_of_ble_eq_true rfl⟩ ⟨Nat.zero_le _, Nat.zero_le _⟩ rfl (Nat.le_of_ble_eq_true rfl) ?_
    refine b_lload_n C 1 dX2_outside_68 rfl rfl ?_
    refine b_lc_lt (tgt := 93) C dX2_outside_69 dX2_outside_70 (by decide) (fun c31 => ?_) (fun c31 => ?_)
    · have h32 := ipos h28 c31; clear h28
      refine b_iload C 3 dX2_outside_93 rfl ?_
      refine b_iconst (v := (1 : Int32)) C dX2_outside_95 (by decide) ?_
      refine b_iload C 4 dX2_outside_96 rfl ?_
      refine b_ishl C dX2_outside_98 ?_
      refine b_ior C dX2_outside_99 ?_
      obtain ⟨x34, ex34, h35⟩ := lt1_inv h32; clear h32
      refine b_nmI ex34 ?_
      refine b_istore (lv' := [(6, .int x34), (0, .ref (ad 0)), (2, .long x11), (4, .long x12), (7, .int x14)]) C dX2_outside_100 (by decide) rfl ?_
      obtain ⟨x36, ex36, h37⟩ := lt1_inv h35; clear h35
      refine b_iinc (v := x36) (lv' := [(7, .int x36), (6, .int x34), (0, .ref (ad 0)), (2, .long x11), (4, .long x12)]) C 4 dX2_outside_102 rfl (by rw [ex36]; rfl) (by decide) rfl ?_
      refine b_goto (tgt := 36) C dX2_outside_105 (by decide) ?_
      exact b_sub [2, 3, 4, 1, 0] rfl (hq36 _ _ _ _ _ h37)
    have h33 := ineg h28 c31; clear h28
    refine b_aload_n C 0 dX2_outside_73 rfl rfl ?_
    refine gX2_23 C X dX2_outside_74 ?_
    refine b_aload_n C 0 dX2_outside_77 rfl rfl ?_
    refine gX2_72 C X dX2_outside_78 ?_
    refine b_iload C 4 dX2_outside_81 rfl ?_
    refine b_iconst (v := (1 : Int32)) C dX2_outside_83 (by decide) ?_
    obtain ⟨r40, σ39, ec38, h38⟩ := bd2_inv h33; clear h33
    refine b_callWl (rest := []) C (sameX ad ca) X dX2_outside_84 (ctX0_end ec38) mf_X0_end mi_X0_end kl_X2_130 3 rfl rfl rfl rfl ⟨rfl, rfl⟩ ⟨Nat.le_of_ble_eq_true rfl, Nat.le_of_ble_eq_true rfl⟩ ⟨Nat.zero_le _, Nat.zero_le _⟩ rfl (Nat.le_of_ble_eq_true rfl) ?_
    refine b_lload C 2 dX2_outside_87 rfl ?_
    refine b_lc_le (tgt := 102) C dX2_outside_89 dX2_outside_90 (by decide) (fun c41 => ?_) (fun c41 => ?_)
    · have h42 := ipos h38 c41; clear h38
      obtain ⟨x44, ex44, h45⟩ := lt1_inv h42; clear h42
      refine b_iinc (v := x44) (lv' := [(7, .int x44), (0, .ref (ad 0)), (2, .long x11), (4, .long x12), (6, .int x13)]) C 4 dX2_outside_102 rfl (by rw [ex44]; rfl) (by decide) rfl ?_
      refine b_goto (tgt := 36) C dX2_outside_105 (by decide) ?_
      exact b_sub [1, 2, 3, 4, 0] rfl (hq36 _ _ _ _ _ h45)
    have h43 := ineg h38 c41; clear h38
    refine b_iload C 3 dX2_outside_93 rfl ?_
    refine b_iconst (v := (1 : Int32)) C dX2_outside_95 (by decide) ?_
    refine b_iload C 4 dX2_outside_96 rfl ?_
    refine b_ishl C dX2_outside_98 ?_
    refine b_ior C dX2_outside_99 ?_
    obtain ⟨x46, ex46, h47⟩ := lt1_inv h43; clear h43
    refine b_nmI ex46 ?_
    refine b_istore (lv' := [(6, .int x46), (0, .ref (ad 0)), (2, .long x11), (4, .long x12), (7, .int x14)]) C dX2_outside_100 (by decide) rfl ?_
    obtain ⟨x48, ex48, h49⟩ := lt1_inv h47; clear h47
    refine b_iinc (v := x48) (lv' := [(7, .int x48), (6, .int x46), (0, .ref (ad 0)), (2, .long x11), (4, .long x12)]) C 4 dX2_outside_102 rfl (by rw [ex48]; rfl) (by decide) rfl ?_
    refine b_goto (tgt := 36) C dX2_outside_105 (by decide) ?_
    exact b_sub [2, 3, 4, 1, 0] rfl (hq36 _ _ _ _ _ h49)
theorem ctX2_outside {l : Launch} {ad : Nat → Nat} {ca : Nat → ClassId} {N : Nat} {σ : St} {rf : Int32} {σf : St} (h : fX2_outside N σ = some (rf, σf)) : Cw l yX2_outside cX2_outside 8 (some .int) rmX2_outside [.ref (ad 0)] (wX ad ca) (tyX ca) σ (some (.int rf)) σf := by
  refine Cw_of (by decide) (sameX ad ca) (Nat.le_of_ble_eq_true rfl) ?_
  intro p e s m args below meth c D A C X hr
  replace C : Cb p s m args meth c RX2 cX2_outside 8 := C
  have h1 := h; clear h
  refine b_sub (lv' := [(0, .ref (ad 0))]) [0] rfl ?_
  refine b_aload_n C 0 dX2_outside_0 rfl rfl ?_
  obtain ⟨r4, σ3, ec2, h2⟩ := bd2_inv h1; clear h1
  refine b_callWi (rest := []) C (sameX ad ca) X dX2_outside_1 (ctX2_correctSet ec2) mf_X2_correctSet mi_X2_correctSet kl_X2_149 0 rfl rfl rfl rfl ⟨rfl, rfl⟩ ⟨Nat.le_of_ble_eq_true rfl, Nat.le_of_ble_eq_true rfl⟩ ⟨Nat.zero_le _, Nat.zero_le _⟩ rfl (Nat.le_of_ble_eq_true rfl) ?_
  refine b_istore_n (lv' := [(1, .int r4), (0, .ref (ad 0))]) C dX2_outside_4 rfl (by decide) rfl ?_
  refine b_aload_n C 1 dX2_outside_5 rfl rfl ?_
  refine gX2_23 C X dX2_outside_6 ?_
  refine b_iconst (v := (0 : Int32)) C dX2_outside_9 (by decide) ?_
  refine b_iload_n C 0 dX2_outside_10 rfl rfl ?_
  refine b_iconst (v := (0 : Int32)) C dX2_outside_11 (by decide) ?_
  refine b_iconst (v := (0 : Int32)) C dX2_outside_12 (by decide) ?_
  obtain ⟨r7, σ6, ec5, h5⟩ := bd2_inv h2; clear h2
  refine b_callWl (rest := []) C (sameX ad ca) X dX2_outside_13 (ctX0_extremeEnd ec5) mf_X0_extremeEnd mi_X0_extremeEnd kl_X2_168 3 rfl rfl rfl rfl ⟨rfl, rfl⟩ ⟨Nat.le_of_ble_eq_true rfl, Nat.le_of_ble_eq_true rfl⟩ ⟨Nat.zero_le _, Nat.zero_le _⟩ rfl (Nat.le_of_ble_eq_true rfl) ?_
  refine b_lstore_n (lv' := [(2, .long r7), (1, .int r4), (0, .ref (ad 0))]) C dX2_outside_16 rfl (by decide) rfl ?_
  refine b_aload_n C 2 dX2_outside_17 rfl rfl ?_
  refine gX2_23 C X dX2_outside_18 ?_
  refine b_iconst (v := (0 : Int32)) C dX2_outside_21 (by decide) ?_
  refine b_iload_n C 1 dX2_outside_22 rfl rfl ?_
  refine b_iconst (v := (1 : Int32)) C dX2_outside_23 (by decide) ?_
  refine b_iconst (v := (1 : Int32)) C dX2_outside_24 (by decide) ?_
  obtain ⟨r10, σ9, ec8, h8⟩ := bd2_inv h5; clear h5
  refine b_callWl (rest := []) C (sameX ad ca) X dX2_outside_25 (ctX0_extremeEnd ec8) mf_X0_extremeEnd mi_X0_extremeEnd kl_X2_168 3 rfl rfl rfl rfl ⟨rfl, rfl⟩ ⟨Nat.le_of_ble_eq_true rfl, Nat.le_of_ble_eq_true rfl⟩ ⟨Nat.zero_le _, Nat.zero_le _⟩ rfl (Nat.le_of_ble_eq_true rfl) ?_
  refine b_lstore (lv' := [(4, .long r10), (2, .long r7), (1, .int r4), (0, .ref (ad 0))]) C dX2_outside_28 (by decide) rfl ?_
  refine b_iconst (v := (0 : Int32)) C dX2_outside_30 (by decide) ?_
  refine b_istore (lv' := [(6, .int (0 : Int32)), (4, .long r10), (2, .long r7), (1, .int r4), (0, .ref (ad 0))]) C dX2_outside_31 (by decide) rfl ?_
  refine b_iconst (v := (0 : Int32)) C dX2_outside_33 (by decide) ?_
  refine b_istore (lv' := [(7, .int (0 : Int32)), (6, .int (0 : Int32)), (4, .long r10), (2, .long r7), (1, .int r4), (0, .ref (ad 0))]) C dX2_outside_34 (by decide) rfl ?_
  refine b_sub [5, 3, 2, 1, 0] rfl (wX2_outside_36 C X hr (fun σ51 x50 h52 => ?_) _ _ _ _ _ _ h8)
  refine b_iload C 0 dX2_outside_108 rfl ?_
  obtain ⟨rfl, rfl⟩ := so2 h52
  exact b_iret C dX2_outside_110 hr
def rmX2_rate : Room := { frames := 2, cells := 0, slots := 0, locals := 58 }
def fX2_rate (N : Nat) (σ : St) (a1 : Int32) (a2 : Int32) : Option (Int64 × St) :=
  bd0 (fX2_isWithin a1 (1 : Int32) (gI σ 3)) fun r5 =>
  if r5 = (0 : Int32) then (
  some ((-9223372036854775808 : Int64), σ))
  else (
  bd2 (fX2_widthAfter N σ (a1 - (1 : Int32))) fun r11 σ10 =>
  if r11 = (0 : Int64) then (
  some ((-9223372036854775808 : Int64), σ10))
  else (
  bd2 (fX2_widthAfter N σ10 a1) fun r17 σ16 =>
  bd0 (fX2_inLowestTerms N r17 r11 a2) fun r19 =>
  some (r19, σ16)))
theorem ctX2_rate {l : Launch} {ad : Nat → Nat} {ca : Nat → ClassId} {N : Nat} {σ : St} {a1 : Int32} {a2 : Int32} {rf : Int64} {σf : St} (h : fX2_rate N σ a1 a2 = some (rf, σf)) : Cw l yX2_rate cX2_rate 5 (some .long) rmX2_rate [.ref (ad 0), .int a1, .int a2] (wX ad ca) (tyX ca) σ (some (.long rf)) σf := by
  refine Cw_of (by decide) (sameX ad ca) (Nat.le_of_ble_eq_true rfl) ?_
  intro p e s m args below meth c D A C X hr
  replace C : Cb p s m args meth c RX2 cX2_rate 5 := C
  have h3 := h; clear h
  refine b_sub (lv' := [(0, .ref (ad 0)), (1, .int a1), (2, .int a2)]) [0, 1, 2] rfl ?_
  refine b_iload_n C 1 dX2_rate_0 rfl rfl ?_
  refine b_iconst (v := (1 : Int32)) C dX2_rate_1 (by decide) ?_
  refine b_aload_n C 0 dX2_rate_2 rfl rfl ?_
  refine gX2_72 C X dX2_rate_3 ?_
  obtain ⟨r5, ec4, h4⟩ := bd0_inv h3; clear h3
  refine b_callSi (rest := []) C dX2_rate_6 (ctX2_isWithin ec4) mf_X2_isWithin ms_X2_isWithin kl_X2_49 rfl ⟨rfl, rfl⟩ ⟨Nat.le_of_ble_eq_true rfl, Nat.le_of_ble_eq_true rfl⟩ ⟨Nat.zero_le _, Nat.zero_le _⟩ rfl (Nat.le_of_ble_eq_true rfl) ?_
  refine b_if_ne (tgt := 16) C dX2_rate_9 (by decide) (fun c6 => ?_) (fun c6 => ?_)
  · have h7 := ineg h4 c6; clear h4
    refine b_aload_n C 0 dX2_rate_16 rfl rfl ?_
    refine b_iload_n C 1 dX2_rate_17 rfl rfl ?_
    refine b_iconst (v := (1 : Int32)) C dX2_rate_18 (by decide) ?_
    refine b_isub C dX2_rate_19 ?_
    obtain ⟨r11, σ10, ec9, h9⟩ := bd2_inv h7; clear h7
    refine b_callWl (rest := []) C (sameX ad ca) X dX2_rate_20 (ctX2_widthAfter ec9) mf_X2_widthAfter mi_X2_widthAfter kl_X2_155 0 rfl rfl rfl rfl ⟨rfl, rfl⟩ ⟨Nat.le_of_ble_eq_true rfl, Nat.le_of_ble_eq_true rfl⟩ ⟨Nat.zero_le _, Nat.zero_le _⟩ rfl (Nat.le_of_ble_eq_true rfl) ?_
    refine b_lstore_n (lv' := [(3, .long r11), (0, .ref (ad 0)), (1, .int a1), (2, .int a2)]) C dX2_rate_23 rfl (by decide) rfl ?_
    refine b_lload_n C 0 dX2_rate_24 rfl rfl ?_
    refine b_lconst (v := (0 : Int64)) C dX2_rate_25 (by decide) ?_
    refine b_lc_ne (tgt := 36) C dX2_rate_26 dX2_rate_27 (by decide) (fun c12 => ?_) (fun c12 => ?_)
    · have h13 := ineg h9 c12; clear h9
      refine b_aload_n C 1 dX2_rate_36 rfl rfl ?_
      refine b_iload_n C 2 dX2_rate_37 rfl rfl ?_
      obtain ⟨r17, σ16, ec15, h15⟩ := bd2_inv h13; clear h13
      refine b_callWl (rest := []) C (sameX ad ca) X dX2_rate_38 (ctX2_widthAfter ec15) mf_X2_widthAfter mi_X2_widthAfter kl_X2_155 0 rfl rfl rfl rfl ⟨rfl, rfl⟩ ⟨Nat.le_of_ble_eq_true rfl, Nat.le_of_ble_eq_true rfl⟩ ⟨Nat.zero_le _, Nat.zero_le _⟩ rfl (Nat.le_of_ble_eq_true rfl) ?_
      refine b_lload_n C 0 dX2_rate_41 rfl rfl ?_
      refine b_iload_n C 3 dX2_rate_42 rfl rfl ?_
      obtain ⟨r19, ec18, h18⟩ := bd0_inv h15; clear h15
      refine b_callSl (rest := []) C dX2_rate_43 (ctX2_inLowestTerms ec18) mf_X2_inLowestTerms ms_X2_inLowestTerms kl_X2_158 rfl ⟨rfl, rfl⟩ ⟨Nat.le_of_ble_eq_true rfl, Nat.le_of_ble_eq_true rfl⟩ ⟨Nat.zero_le _, Nat.zero_le _⟩ rfl (Nat.le_of_ble_eq_true rfl) ?_
      obtain ⟨rfl, rfl⟩ := so2 h18
      exact b_lret C dX2_rate_46 hr
    have h14 := ipos h9 c12; clear h9
    refine b_ldc2 (v := (-9223372036854775808 : Int64)) C dX2_rate_30 kc_X2_128 ?_
    refine b_goto (tgt := 46) C dX2_rate_33 (by decide) ?_
    obtain ⟨rfl, rfl⟩ := so2 h14
    exact b_lret C dX2_rate_46 hr
  have h8 := ipos h4 c6; clear h4
  refine b_ldc2 (v := (-9223372036854775808 : Int64)) C dX2_rate_12 kc_X2_128 ?_
  obtain ⟨rfl, rfl⟩ := so2 h8
  exact b_lret C dX2_rate_15 hr
def rmX2_width : Room := { frames := 3, cells := 0, slots := 0, locals := 79 }
def fX2_width (N : Nat) (σ : St) (a1 : Int32) (a2 : Int32) : Option (Int64 × St) :=
  bd0 (fX2_isWithin a1 (0 : Int32) (gI σ 3)) fun r5 =>
  if r5 = (0 : Int32) then (
  some ((-9223372036854775808 : Int64), σ))
  else (
  bd2 (fX2_widthAfter N σ a1) fun r11 σ10 =>
  bd2 (fX2_asFraction N σ10 r11 a2) fun r14 σ13 =>
  some (r14, σ13))
theorem ctX2_width {l : Launch} {ad : Nat → Nat} {ca : Nat → ClassId} {N : Nat} {σ : St} {a1 : Int32} {a2 : Int32} {rf : Int64} {σf : St} (h : fX2_width N σ a1 a2 = some (rf, σf)) : Cw l yX2_width cX2_width 3 (some .long) rmX2_width [.ref (ad 0), .int a1, .int a2] (wX ad ca) (tyX ca) σ (some (.long rf)) σf := by
  refine Cw_of (by decide) (sameX ad ca) (Nat.le_of_ble_eq_true rfl) ?_
  intro p e s m args below meth c D A C X hr
  replace C : Cb p s m args meth c RX2 cX2_width 3 := C
  have h3 := h; clear h
  refine b_sub (lv' := [(0, .ref (ad 0)), (1, .int a1), (2, .int a2)]) [0, 1, 2] rfl ?_
  refine b_iload_n C 1 dX2_width_0 rfl rfl ?_
  refine b_iconst (v := (0 : Int32)) C dX2_width_1 (by decide) ?_
  refine b_aload_n C 0 dX2_width_2 rfl rfl ?_
  refine gX2_72 C X dX2_width_3 ?_
  obtain ⟨r5, ec4, h4⟩ := bd0_inv h3; clear h3
  refine b_callSi (rest := []) C dX2_width_6 (ctX2_isWithin ec4) mf_X2_isWithin ms_X2_isWithin kl_X2_49 rfl ⟨rfl, rfl⟩ ⟨Nat.le_of_ble_eq_true rfl, Nat.le_of_ble_eq_true rfl⟩ ⟨Nat.zero_le _, Nat.zero_le _⟩ rfl (Nat.le_of_ble_eq_true rfl) ?_
  refine b_if_ne (tgt := 16) C dX2_width_9 (by decide) (fun c6 => ?_) (fun c6 => ?_)
  · have h7 := ineg h4 c6; clear h4
    refine b_aload_n C 0 dX2_width_16 rfl rfl ?_
    refine b_aload_n C 0 dX2_width_17 rfl rfl ?_
    refine b_iload_n C 1 dX2_width_18 rfl rfl ?_
    obtain ⟨r11, σ10, ec9, h9⟩ := bd2_inv h7; clear h7
    refine b_callWl (rest := [.ref (ad 0)]) C (sameX ad ca) X dX2_width_19 (ctX2_widthAfter ec9) mf_X2_widthAfter mi_X2_widthAfter kl_X2_155 0 rfl rfl rfl rfl ⟨rfl, rfl⟩ ⟨Nat.le_of_ble_eq_true rfl, Nat.le_of_ble_eq_true rfl⟩ ⟨Nat.zero_le _, Nat.zero_le _⟩ rfl (Nat.le_of_ble_eq_true rfl) ?_
    refine b_iload_n C 2 dX2_width_22 rfl rfl ?_
    obtain ⟨r14, σ13, ec12, h12⟩ := bd2_inv h9; clear h9
    refine b_callWl (rest := []) C (sameX ad ca) X dX2_width_23 (ctX2_asFraction ec12) mf_X2_asFraction mi_X2_asFraction kl_X2_134 0 rfl rfl rfl rfl ⟨rfl, rfl⟩ ⟨Nat.le_of_ble_eq_true rfl, Nat.le_of_ble_eq_true rfl⟩ ⟨Nat.zero_le _, Nat.zero_le _⟩ rfl (Nat.le_of_ble_eq_true rfl) ?_
    obtain ⟨rfl, rfl⟩ := so2 h12
    exact b_lret C dX2_width_26 hr
  have h8 := ipos h4 c6; clear h4
  refine b_ldc2 (v := (-9223372036854775808 : Int64)) C dX2_width_12 kc_X2_128 ?_
  obtain ⟨rfl, rfl⟩ := so2 h8
  exact b_lret C dX2_width_15 hr
def rmX0_clearRow : Room := { frames := 1, cells := 0, slots := 0, locals := 27 }
def fX0_clearRow_2b (N : Nat) (b : Nat) (q24 : St → Option St) (q2 : St → Int32 → Int32 → Option St) (σ6 : St) (x4 : Int32) (x5 : Int32) : Option St :=
  if (10 : Int32) ≤ x5 then (
  q24 σ6)
  else (
  bd0 (fX0_put σ6 b x4 x5 (0 : Int64) (0 : Int64)) fun σ12 =>
  lt1 (x5 + (1 : Int32)) fun x13 =>
  q2 σ12 x4 x13)
def fX0_clearRow_2 (N : Nat) (b : Nat) (q24 : St → Option St) : Nat → St → Int32 → Int32 → Option St
  | 0, _, _, _ => none
  | n + 1, σ, x4, x5 => fX0_clearRow_2b N b q24 (fX0_clearRow_2 N b q24 n) σ x4 x5
def fX0_clearRow (N : Nat) (σ : St) (b : Nat) (a1 : Int32) : Option St :=
  if isT b = false then none else
  fX0_clearRow_2 N b (fun σ15 =>
 some σ15) N σ a1 (0 : Int32)
theorem wX0_clearRow_2 {l : Launch} {p : Program} {e : Env} {s : State} {m : MethodId} {args : Array Value} {below : List Frame} {meth : Method} {c : Code} {D : va_G} {A : Nat → Prop} {ad : Nat → Nat} {ca : Nat → ClassId} {σf : St} (C : Cb p s m args meth c RX0 cX0_clearRow 3) (X : Cx s D A (wX ad ca) (tyX ca)) (hr : meth.sig.returnType = none) {b : Nat} (hb : isT b = true) {N : Nat} {q24 : St → Option St} (hq24 : ∀ (σ : St), q24 σ = some σf → bW p l e rmX0_clearRow s m args below meth c 0 0 (MQ below (Qw D (wX ad ca) σf none A) args s 0 0 A) 3 (wd D A (wX ad ca) s σ) 24 [] []) : ∀ n : Nat, ∀ (σ : St) (y0 : Int32) (y1 : Int32), fX0_clearRow_2 N b q24 n σ y0 y1 = some σf → bW p l e rmX0_clearRow s m args below meth c 0 0 (MQ below (Qw D (wX ad ca) σf none A) args s 0 0 A) 3 (wd D A (wX ad ca) s σ) 2 [(0, .ref (ad b)), (1, .int y0), (2, .int y1)] [] := by
  intro n
  induction n with
  | zero => intro σ6 x4 x5 h7; exact nn h7
  | succ n hq2 =>
    intro σ6 x4 x5 h7
    replace h7 : fX0_clearRow_2b N b q24 (fX0_clearRow_2 N b q24 n) σ6 x4 x5 = some σf := h7
    refine b_iload_n C 2 dX0_clearRow_2 rfl rfl ?_
    refine b_aload_n C 0 dX0_clearRow_3 rfl rfl ?_
    refine gX0_7 C X hb dX0_clearRow_4 ?_
    refine b_icmp_ge (tgt := 24) C dX0_clearRow_7 (by decide) (fun c8 => ?_) (fun c8 => ?_)
    · have h9 := ipos h7 c8; clear h7
      exact b_sub [] rfl (hq24 _ h9)
    have h10 := ineg h7 c8; clear h7
    refine b_aload_n C 0 dX0_clearRow_10 rfl rfl ?_
    refine b_iload_n C 1 dX0_clearRow_11 rfl rfl ?_
    refine b_iload_n C 2 dX0_clearRow_12 rfl rfl ?_
    refine b_lconst (v := (0 : Int64)) C dX0_clearRow_13 (by decide) ?_
    refine b_lconst (v := (0 : Int64)) C dX0_clearRow_14 (by decide) ?_
    obtain ⟨σ12, ec11, h11⟩ := bd0_inv h10; clear h10
    refine b_callTv (rest := []) C (sameX ad ca) X dX0_clearRow_15 (ctX0_put ec11) mf_X0_put mi_X0_put kl_X0_20 hb rfl rfl ⟨rfl, rfl⟩ ⟨Nat.le_of_ble_eq_true rfl, Nat.le_of_ble_eq_true rfl⟩ ⟨Nat.zero_le _, Nat.zero_le _⟩ rfl (Nat.le_of_ble_eq_true rfl) ?_
    obtain ⟨x13, ex13, h14⟩ := lt1_inv h11; clear h11
    refine b_iinc (v := x13) (lv' := [(2, .int x13), (0, .ref (ad b)), (1, .int x4)]) C 2 dX0_clearRow_18 rfl (by rw [ex13]; rfl) (by decide) rfl ?_
    refine b_goto (tgt := 2) C dX0_clearRow_21 (by decide) ?_
    exact b_sub [1, 2, 0] rfl (hq2 _ _ _ h14)
theorem ctX0_clearRow {l : Launch} {ad : Nat → Nat} {ca : Nat → ClassId} {N : Nat} {σ : St} {b : Nat} {a1 : Int32} {σf : St} (h : fX0_clearRow N σ b a1 = some σf) : Cw l yX0_clearRow cX0_clearRow 3 none rmX0_clearRow [.ref (ad b), .int a1] (wX ad ca) (tyX ca) σ none σf := by
  obtain ⟨hb0, h3⟩ := gdn h; clear h
  have hb : isT b = true := nb hb0
  refine Cw_of (by decide) (sameX ad ca) (Nat.le_of_ble_eq_true rfl) ?_
  intro p e s m args below meth c D A C X hr
  replace C : Cb p s m args meth c RX0 cX0_clearRow 3 := C
  refine b_sub (lv' := [(0, .ref (ad b)), (1, .int a1)]) [0, 1] rfl ?_
  refine b_iconst (v := (0 : Int32)) C dX0_clearRow_0 (by decide) ?_
  refine b_istore_n (lv' := [(2, .int (0 : Int32)), (0, .ref (ad b)), (1, .int a1)]) C dX0_clearRow_1 rfl (by decide) rfl ?_
  refine b_sub [1, 2, 0] rfl (wX0_clearRow_2 C X hr hb (fun σ15 h16 => ?_) _ _ _ _ h3)
  obtain rfl := so1 h16
  exact b_vret C dX0_clearRow_24 hr
def rmX2_startAnew : Room := { frames := 2, cells := 0, slots := 0, locals := 49 }
def fX2_startAnew_36b (N : Nat) (q66 : St → Option St) (q36 : St → Int32 → Option St) (σ18 : St) (x17 : Int32) : Option St :=
  if (10 : Int32) ≤ x17 then (
  q66 σ18)
  else (
  if (x17 < 0 ∨ 10 ≤ (x17).toNatClampNeg) then none else
  lt1 (sF σ18 2 (upd (gF σ18 2) (x17).toNatClampNeg (0 : Int32))) fun σ25 =>
  bd0 (fX0_clearRow N σ25 6 x17) fun σ28 =>
  lt1 (x17 + (1 : Int32)) fun x29 =>
  q36 σ28 x29)
def fX2_startAnew_36 (N : Nat) (q66 : St → Option St) : Nat → St → Int32 → Option St
  | 0, _, _ => none
  | n + 1, σ, x17 => fX2_startAnew_36b N q66 (fX2_startAnew_36 N q66 n) σ x17
def fX2_startAnew_69b (N : Nat) (q93 : St → Option St) (q69 : St → Int32 → Option St) (σ34 : St) (x33 : Int32) : Option St :=
  if (100 : Int32) ≤ x33 then (
  q93 σ34)
  else (
  if (x33 < 0 ∨ 100 ≤ (x33).toNatClampNeg) then none else
  lt1 (sF σ34 1 (upd (gF σ34 1) (x33).toNatClampNeg (0 : Int32))) fun σ41 =>
  lt1 (x33 + (1 : Int32)) fun x43 =>
  q69 σ41 x43)
def fX2_startAnew_69 (N : Nat) (q93 : St → Option St) : Nat → St → Int32 → Option St
  | 0, _, _ => none
  | n + 1, σ, x33 => fX2_startAnew_69b N q93 (fX2_startAnew_69 N q93 n) σ x33
def fX2_startAnew (N : Nat) (σ : St) (a1 : Int32) (a2 : Int32) (a3 : Int32) : Option St :=
  lt1 (sI σ 0 a1) fun σ5 =>
  lt1 (sI σ5 1 a2) fun σ7 =>
  lt1 (sI σ7 2 a3) fun σ9 =>
  lt1 (sI σ9 3 (0 : Int32)) fun σ11 =>
  lt1 (sI σ11 4 (0 : Int32)) fun σ13 =>
  bd0 (fX0_clearRow N σ13 3 (0 : Int32)) fun σ16 =>
  fX2_startAnew_36 N (fun σ31 =>
 fX2_startAnew_69 N (fun σ45 =>
 some σ45) N σ31 (0 : Int32)) N σ16 (0 : Int32)
theorem wX2_startAnew_36 {l : Launch} {p : Program} {e : Env} {s : State} {m : MethodId} {args : Array Value} {below : List Frame} {meth : Method} {c : Code} {D : va_G} {A : Nat → Prop} {ad : Nat → Nat} {ca : Nat → ClassId} {σf : St} (C : Cb p s m args meth c RX2 cX2_startAnew 5) (X : Cx s D A (wX ad ca) (tyX ca)) (hr : meth.sig.returnType = none) {N : Nat} {q66 : St → Option St} (hq66 : ∀ (σ : St), q66 σ = some σf → bW p l e rmX2_startAnew s m args below meth c 0 0 (MQ below (Qw D (wX ad ca) σf none A) args s 0 0 A) 5 (wd D A (wX ad ca) s σ) 66 [(0, .ref (ad 0))] []) : ∀ n : Nat, ∀ (σ : St) (y0 : Int32), fX2_startAnew_36 N q66 n σ y0 = some σf → bW p l e rmX2_startAnew s m args below meth c 0 0 (MQ below (Qw D (wX ad ca) σf none A) args s 0 0 A) 5 (wd D A (wX ad ca) s σ) 36 [(0, .ref (ad 0)), (4, .int y0)] [] := by
  intro n
  induction n with
  | zero => intro σ18 x17 h19; exact nn h19
  | succ n hq36 =>
    intro σ18 x17 h19
    replace h19 : fX2_startAnew_36b N q66 (fX2_startAnew_36 N q66 n) σ18 x17 = some σf := h19
    refine b_iload C 1 dX2_startAnew_36 rfl ?_
    refine b_bipush (v := (10 : Int32)) C dX2_startAnew_38 (by decide) ?_
    refine b_icmp_ge (tgt := 66) C dX2_startAnew_40 (by decide) (fun c20 => ?_) (fun c20 => ?_)
    · have h21 := ipos h19 c20; clear h19
      exact b_sub [0] rfl (hq66 _ h21)
    have h22 := ineg h19 c20; clear h19
    refine b_aload_n C 0 dX2_startAnew_43 rfl rfl ?_
    refine gX2_34 C X dX2_startAnew_44 ?_
    refine b_iload C 1 dX2_startAnew_47 rfl ?_
    refine b_iconst (v := (0 : Int32)) C dX2_startAnew_49 (by decide) ?_
    obtain ⟨g24, h23⟩ := gdn h22; clear h22
    refine aX_10 C X g24 dX2_startAnew_50 ?_
    obtain ⟨σ25, eσ25, h26⟩ := lt1_inv h23; clear h23
    refine b_nmS eσ25 ?_
    refine b_aload_n C 0 dX2_startAnew_51 rfl rfl ?_
    refine gX2_27 C X dX2_startAnew_52 ?_
    refine b_iload C 1 dX2_startAnew_55 rfl ?_
    obtain ⟨σ28, ec27, h27⟩ := bd0_inv h26; clear h26
    refine b_callWv (rest := []) C (sameX ad ca) X dX2_startAnew_57 (ctX0_clearRow ec27) mf_X0_clearRow mi_X0_clearRow kl_X2_177 6 rfl rfl rfl rfl ⟨rfl, rfl⟩ ⟨Nat.le_of_ble_eq_true rfl, Nat.le_of_ble_eq_true rfl⟩ ⟨Nat.zero_le _, Nat.zero_le _⟩ rfl (Nat.le_of_ble_eq_true rfl) ?_
    obtain ⟨x29, ex29, h30⟩ := lt1_inv h27; clear h27
    refine b_iinc (v := x29) (lv' := [(4, .int x29), (0, .ref (ad 0))]) C 1 dX2_startAnew_60 rfl (by rw [ex29]; rfl) (by decide) rfl ?_
    refine b_goto (tgt := 36) C dX2_startAnew_63 (by decide) ?_
    exact b_sub [1, 0] rfl (hq36 _ _ h30)
theorem wX2_startAnew_69 {l : Launch} {p : Program} {e : Env} {s : State} {m : MethodId} {args : Array Value} {below : List Frame} {meth : Method} {c : Code} {D : va_G} {A : Nat → Prop} {ad : Nat → Nat} {ca : Nat → ClassId} {σf : St} (C : Cb p s m args meth c RX2 cX2_startAnew 5) (X : Cx s D A (wX ad ca) (tyX ca)) (hr : meth.sig.returnType = none) {N : Nat} {q93 : St → Option St} (hq93 : ∀ (σ : St), q93 σ = some σf → bW p l e rmX2_startAnew s m args below meth c 0 0 (MQ below (Qw D (wX ad ca) σf none A) args s 0 0 A) 5 (wd D A (wX ad ca) s σ) 93 [] []) : ∀ n : Nat, ∀ (σ : St) (y0 : Int32), fX2_startAnew_69 N q93 n σ y0 = some σf → bW p l e rmX2_startAnew s m args below meth c 0 0 (MQ below (Qw D (wX ad ca) σf none A) args s 0 0 A) 5 (wd D A (wX ad ca) s σ) 69 [(0, .ref (ad 0)), (4, .int y0)] [] := by
  intro n
  induction n with
  | zero => intro σ34 x33 h35; exact nn h35
  | succ n hq69 =>
    intro σ34 x33 h35
    replace h35 : fX2_startAnew_69b N q93 (fX2_startAnew_69 N q93 n) σ34 x33 = some σf := h35
    refine b_iload C 1 dX2_startAnew_69 rfl ?_
    refine b_aload_n C 0 dX2_startAnew_71 rfl rfl ?_
    refine gX2_30 C X dX2_startAnew_72 ?_
    refine nX_9 C X dX2_startAnew_75 ?_
    refine b_icmp_ge (tgt := 93) C dX2_startAnew_76 (by decide) (fun c36 => ?_) (fun c36 => ?_)
    · have h37 := ipos h35 c36; clear h35
      exact b_sub [] rfl (hq93 _ h37)
    have h38 := ineg h35 c36; clear h35
    refine b_aload_n C 0 dX2_startAnew_79 rfl rfl ?_
    refine gX2_30 C X dX2_startAnew_80 ?_
    refine b_iload C 1 dX2_startAnew_83 rfl ?_
    refine b_iconst (v := (0 : Int32)) C dX2_startAnew_85 (by decide) ?_
    obtain ⟨g40, h39⟩ := gdn h38; clear h38
    refine aX_9 C X g40 dX2_startAnew_86 ?_
    obtain ⟨σ41, eσ41, h42⟩ := lt1_inv h39; clear h39
    refine b_nmS eσ41 ?_
    obtain ⟨x43, ex43, h44⟩ := lt1_inv h42; clear h42
    refine b_iinc (v := x43) (lv' := [(4, .int x43), (0, .ref (ad 0))]) C 1 dX2_startAnew_87 rfl (by rw [ex43]; rfl) (by decide) rfl ?_
    refine b_goto (tgt := 69) C dX2_startAnew_90 (by decide) ?_
    exact b_sub [1, 0] rfl (hq69 _ _ h44)
theorem ctX2_startAnew {l : Launch} {ad : Nat → Nat} {ca : Nat → ClassId} {N : Nat} {σ : St} {a1 : Int32} {a2 : Int32} {a3 : Int32} {σf : St} (h : fX2_startAnew N σ a1 a2 a3 = some σf) : Cw l yX2_startAnew cX2_startAnew 5 none rmX2_startAnew [.ref (ad 0), .int a1, .int a2, .int a3] (wX ad ca) (tyX ca) σ none σf := by
  refine Cw_of (by decide) (sameX ad ca) (Nat.le_of_ble_eq_true rfl) ?_
  intro p e s m args below meth c D A C X hr
  replace C : Cb p s m args meth c RX2 cX2_startAnew 5 := C
  have h4 := h; clear h
  refine b_sub (lv' := [(0, .ref (ad 0)), (1, .int a1), (2, .int a2), (3, .int a3)]) [0, 1, 2, 3] rfl ?_
  refine b_aload_n C 0 dX2_startAnew_0 rfl rfl ?_
  refine b_iload_n C 1 dX2_startAnew_1 rfl rfl ?_
  refine pX2_53 C X dX2_startAnew_2 ?_
  obtain ⟨σ5, eσ5, h6⟩ := lt1_inv h4; clear h4
  refine b_nmS eσ5 ?_
  refine b_aload_n C 0 dX2_startAnew_5 rfl rfl ?_
  refine b_iload_n C 2 dX2_startAnew_6 rfl rfl ?_
  refine pX2_101 C X dX2_startAnew_7 ?_
  obtain ⟨σ7, eσ7, h8⟩ := lt1_inv h6; clear h6
  refine b_nmS eσ7 ?_
  refine b_aload_n C 0 dX2_startAnew_10 rfl rfl ?_
  refine b_iload_n C 3 dX2_startAnew_11 rfl rfl ?_
  refine pX2_83 C X dX2_startAnew_12 ?_
  obtain ⟨σ9, eσ9, h10⟩ := lt1_inv h8; clear h8
  refine b_nmS eσ9 ?_
  refine b_aload_n C 0 dX2_startAnew_15 rfl rfl ?_
  refine b_iconst (v := (0 : Int32)) C dX2_startAnew_16 (by decide) ?_
  refine pX2_72 C X dX2_startAnew_17 ?_
  obtain ⟨σ11, eσ11, h12⟩ := lt1_inv h10; clear h10
  refine b_nmS eσ11 ?_
  refine b_aload_n C 0 dX2_startAnew_20 rfl rfl ?_
  refine b_iconst (v := (0 : Int32)) C dX2_startAnew_21 (by decide) ?_
  refine pX2_98 C X dX2_startAnew_22 ?_
  obtain ⟨σ13, eσ13, h14⟩ := lt1_inv h12; clear h12
  refine b_nmS eσ13 ?_
  refine b_aload_n C 0 dX2_startAnew_25 rfl rfl ?_
  refine gX2_23 C X dX2_startAnew_26 ?_
  refine b_iconst (v := (0 : Int32)) C dX2_startAnew_29 (by decide) ?_
  obtain ⟨σ16, ec15, h15⟩ := bd0_inv h14; clear h14
  refine b_callWv (rest := []) C (sameX ad ca) X dX2_startAnew_30 (ctX0_clearRow ec15) mf_X0_clearRow mi_X0_clearRow kl_X2_177 3 rfl rfl rfl rfl ⟨rfl, rfl⟩ ⟨Nat.le_of_ble_eq_true rfl, Nat.le_of_ble_eq_true rfl⟩ ⟨Nat.zero_le _, Nat.zero_le _⟩ rfl (Nat.le_of_ble_eq_true rfl) ?_
  refine b_iconst (v := (0 : Int32)) C dX2_startAnew_33 (by decide) ?_
  refine b_istore (lv' := [(4, .int (0 : Int32)), (0, .ref (ad 0)), (1, .int a1), (2, .int a2), (3, .int a3)]) C dX2_startAnew_34 (by decide) rfl ?_
  refine b_sub [1, 0] rfl (wX2_startAnew_36 C X hr (fun σ31 h32 => ?_) _ _ _ h15)
  refine b_iconst (v := (0 : Int32)) C dX2_startAnew_66 (by decide) ?_
  refine b_istore (lv' := [(4, .int (0 : Int32)), (0, .ref (ad 0))]) C dX2_startAnew_67 (by decide) rfl ?_
  refine b_sub [1, 0] rfl (wX2_startAnew_69 C X hr (fun σ45 h46 => ?_) _ _ _ h32)
  obtain rfl := so1 h46
  exact b_vret C dX2_startAnew_93 hr
def rmX2_holdersOfValueOf : Room := { frames := 2, cells := 0, slots := 0, locals := 46 }
def fX2_holdersOfValueOf_4b (N : Nat) (q30 : St → Int32 → Option (Int32 × St)) (q4 : St → Int32 → Int32 → Int32 → Option (Int32 × St)) (σ6 : St) (x3 : Int32) (x4 : Int32) (x5 : Int32) : Option (Int32 × St) :=
  if (gI σ6 0) ≤ x5 then (
  q30 σ6 x4)
  else (
  bd2 (fX2_haveSameValue σ6 x3 x5) fun r13 σ12 =>
  if r13 = (0 : Int32) then (
  lt1 (x5 + (1 : Int32)) fun x17 =>
  q4 σ12 x3 x4 x17)
  else (
  lt1 (x4 + (1 : Int32)) fun x19 =>
  lt1 (x5 + (1 : Int32)) fun x21 =>
  q4 σ12 x3 x19 x21))
def fX2_holdersOfValueOf_4 (N : Nat) (q30 : St → Int32 → Option (Int32 × St)) : Nat → St → Int32 → Int32 → Int32 → Option (Int32 × St)
  | 0, _, _, _, _ => none
  | n + 1, σ, x3, x4, x5 => fX2_holdersOfValueOf_4b N q30 (fX2_holdersOfValueOf_4 N q30 n) σ x3 x4 x5
def fX2_holdersOfValueOf (N : Nat) (σ : St) (a1 : Int32) : Option (Int32 × St) :=
  fX2_holdersOfValueOf_4 N (fun σ24 x23 =>
 some (x23, σ24)) N σ a1 (0 : Int32) (0 : Int32)
theorem wX2_holdersOfValueOf_4 {l : Launch} {p : Program} {e : Env} {s : State} {m : MethodId} {args : Array Value} {below : List Frame} {meth : Method} {c : Code} {D : va_G} {A : Nat → Prop} {ad : Nat → Nat} {ca : Nat → ClassId} {rf : Int32} {σf : St} (C : Cb p s m args meth c RX2 cX2_holdersOfValueOf 4) (X : Cx s D A (wX ad ca) (tyX ca)) (hr : meth.sig.returnType = (some .int)) {N : Nat} {q30 : St → Int32 → Option (Int32 × St)} (hq30 : ∀ (σ : St) (y0 : Int32), q30 σ y0 = some (rf, σf) → bW p l e rmX2_holdersOfValueOf s m args below meth c 0 0 (MQ below (Qw D (wX ad ca) σf (some (.int rf)) A) args s 0 0 A) 4 (wd D A (wX ad ca) s σ) 30 [(2, .int y0)] []) : ∀ n : Nat, ∀ (σ : St) (y0 : Int32) (y1 : Int32) (y2 : Int32), fX2_holdersOfValueOf_4 N q30 n σ y0 y1 y2 = some (rf, σf) → bW p l e rmX2_holdersOfValueOf s m args below meth c 0 0 (MQ below (Qw D (wX ad ca) σf (some (.int rf)) A) args s 0 0 A) 4 (wd D A (wX ad ca) s σ) 4 [(0, .ref (ad 0)), (1, .int y0), (2, .int y1), (3, .int y2)] [] := by
  intro n
  induction n with
  | zero => intro σ6 x3 x4 x5 h7; exact nn h7
  | succ n hq4 =>
    intro σ6 x3 x4 x5 h7
    replace h7 : fX2_holdersOfValueOf_4b N q30 (fX2_holdersOfValueOf_4 N q30 n) σ6 x3 x4 x5 = some (rf, σf) := h7
    refine b_iload_n C 3 dX2_holdersOfValueOf_4 rfl rfl ?_
    refine b_aload_n C 0 dX2_holdersOfValueOf_5 rfl rfl ?_
    refine gX2_53 C X dX2_holdersOfValueOf_6 ?_
    refine b_icmp_ge (tgt := 30) C dX2_holdersOfValueOf_9 (by decide) (fun c8 => ?_) (fun c8 => ?_)
    · have h9 := ipos h7 c8; clear h7
      exact b_sub [2] rfl (hq30 _ _ h9)
    have h10 := ineg h7 c8; clear h7
    refine b_aload_n C 0 dX2_holdersOfValueOf_12 rfl rfl ?_
    refine b_iload_n C 1 dX2_holdersOfValueOf_13 rfl rfl ?_
    refine b_iload_n C 3 dX2_holdersOfValueOf_14 rfl rfl ?_
    obtain ⟨r13, σ12, ec11, h11⟩ := bd2_inv h10; clear h10
    refine b_callWi (rest := []) C (sameX ad ca) X dX2_holdersOfValueOf_15 (ctX2_haveSameValue ec11) mf_X2_haveSameValue mi_X2_haveSameValue kl_X2_209 0 rfl rfl rfl rfl ⟨rfl, rfl⟩ ⟨Nat.le_of_ble_eq_true rfl, Nat.le_of_ble_eq_true rfl⟩ ⟨Nat.zero_le _, Nat.zero_le _⟩ rfl (Nat.le_of_ble_eq_true rfl) ?_
    refine b_if_eq (tgt := 24) C dX2_holdersOfValueOf_18 (by decide) (fun c14 => ?_) (fun c14 => ?_)
    · have h15 := ipos h11 c14; clear h11
      obtain ⟨x17, ex17, h18⟩ := lt1_inv h15; clear h15
      refine b_iinc (v := x17) (lv' := [(3, .int x17), (0, .ref (ad 0)), (1, .int x3), (2, .int x4)]) C 3 dX2_holdersOfValueOf_24 rfl (by rw [ex17]; rfl) (by decide) rfl ?_
      refine b_goto (tgt := 4) C dX2_holdersOfValueOf_27 (by decide) ?_
      exact b_sub [1, 2, 3, 0] rfl (hq4 _ _ _ _ h18)
    have h16 := ineg h11 c14; clear h11
    obtain ⟨x19, ex19, h20⟩ := lt1_inv h16; clear h16
    refine b_iinc (v := x19) (lv' := [(2, .int x19), (0, .ref (ad 0)), (1, .int x3), (3, .int x5)]) C 2 dX2_holdersOfValueOf_21 rfl (by rw [ex19]; rfl) (by decide) rfl ?_
    obtain ⟨x21, ex21, h22⟩ := lt1_inv h20; clear h20
    refine b_iinc (v := x21) (lv' := [(3, .int x21), (2, .int x19), (0, .ref (ad 0)), (1, .int x3)]) C 3 dX2_holdersOfValueOf_24 rfl (by rw [ex21]; rfl) (by decide) rfl ?_
    refine b_goto (tgt := 4) C dX2_holdersOfValueOf_27 (by decide) ?_
    exact b_sub [2, 3, 1, 0] rfl (hq4 _ _ _ _ h22)
theorem ctX2_holdersOfValueOf {l : Launch} {ad : Nat → Nat} {ca : Nat → ClassId} {N : Nat} {σ : St} {a1 : Int32} {rf : Int32} {σf : St} (h : fX2_holdersOfValueOf N σ a1 = some (rf, σf)) : Cw l yX2_holdersOfValueOf cX2_holdersOfValueOf 4 (some .int) rmX2_holdersOfValueOf [.ref (ad 0), .int a1] (wX ad ca) (tyX ca) σ (some (.int rf)) σf := by
  refine Cw_of (by decide) (sameX ad ca) (Nat.le_of_ble_eq_true rfl) ?_
  intro p e s m args below meth c D A C X hr
  replace C : Cb p s m args meth c RX2 cX2_holdersOfValueOf 4 := C
  have h2 := h; clear h
  refine b_sub (lv' := [(0, .ref (ad 0)), (1, .int a1)]) [0, 1] rfl ?_
  refine b_iconst (v := (0 : Int32)) C dX2_holdersOfValueOf_0 (by decide) ?_
  refine b_istore_n (lv' := [(2, .int (0 : Int32)), (0, .ref (ad 0)), (1, .int a1)]) C dX2_holdersOfValueOf_1 rfl (by decide) rfl ?_
  refine b_iconst (v := (0 : Int32)) C dX2_holdersOfValueOf_2 (by decide) ?_
  refine b_istore_n (lv' := [(3, .int (0 : Int32)), (2, .int (0 : Int32)), (0, .ref (ad 0)), (1, .int a1)]) C dX2_holdersOfValueOf_3 rfl (by decide) rfl ?_
  refine b_sub [2, 3, 1, 0] rfl (wX2_holdersOfValueOf_4 C X hr (fun σ24 x23 h25 => ?_) _ _ _ _ _ h2)
  refine b_iload_n C 0 dX2_holdersOfValueOf_30 rfl rfl ?_
  obtain ⟨rfl, rfl⟩ := so2 h25
  exact b_iret C dX2_holdersOfValueOf_31 hr
def rmX2_mostFrequent : Room := { frames := 3, cells := 0, slots := 0, locals := 69 }
def fX2_mostFrequent_31b (N : Nat) (q79 : St → Int32 → Int32 → Int32 → Option (Int32 × St)) (q31 : St → Int32 → Int32 → Int32 → Int32 → Option (Int32 × St)) (σ18 : St) (x14 : Int32) (x15 : Int32) (x16 : Int32) (x17 : Int32) : Option (Int32 × St) :=
  if (gI σ18 0) ≤ x17 then (
  q79 σ18 x14 x15 x16)
  else (
  bd2 (fX2_isCorrect σ18 x17) fun r25 σ24 =>
  if r25 = (0 : Int32) then (
  if (0 : Int32) ≤ x16 then (
  lt1 (x17 + (1 : Int32)) fun x32 =>
  q31 σ24 x14 x15 x16 x32)
  else (
  lt1 (x17 + (1 : Int32)) fun x34 =>
  q31 σ24 x14 x17 (0 : Int32) x34))
  else (
  bd2 (fX2_holdersOfValueOf N σ24 x17) fun r38 σ37 =>
  if r38 ≤ x16 then (
  lt1 (x17 + (1 : Int32)) fun x42 =>
  q31 σ37 x14 x15 x16 x42)
  else (
  lt1 (x17 + (1 : Int32)) fun x44 =>
  q31 σ37 x14 x17 r38 x44)))
def fX2_mostFrequent_31 (N : Nat) (q79 : St → Int32 → Int32 → Int32 → Option (Int32 × St)) : Nat → St → Int32 → Int32 → Int32 → Int32 → Option (Int32 × St)
  | 0, _, _, _, _, _ => none
  | n + 1, σ, x14, x15, x16, x17 => fX2_mostFrequent_31b N q79 (fX2_mostFrequent_31 N q79 n) σ x14 x15 x16 x17
def fX2_mostFrequent (N : Nat) (σ : St) (a1 : Int32) : Option (Int32 × St) :=
  bd0 (fX2_isWithin a1 (0 : Int32) (1 : Int32)) fun r4 =>
  if r4 = (0 : Int32) then (
  some ((-1002 : Int32), σ))
  else (
  bd2 (fX2_correctSet N σ) fun r10 σ9 =>
  if r10 = (0 : Int32) then (
  some ((-1005 : Int32), σ9))
  else (
  fX2_mostFrequent_31 N (fun σ49 x46 x47 x48 =>
 if x46 = (0 : Int32) then (
  some (x47, σ49))
  else (
  some (x48, σ49))) N σ9 a1 (0 : Int32) (0 : Int32) (0 : Int32)))
theorem wX2_mostFrequent_31 {l : Launch} {p : Program} {e : Env} {s : State} {m : MethodId} {args : Array Value} {below : List Frame} {meth : Method} {c : Code} {D : va_G} {A : Nat → Prop} {ad : Nat → Nat} {ca : Nat → ClassId} {rf : Int32} {σf : St} (C : Cb p s m args meth c RX2 cX2_mostFrequent 6) (X : Cx s D A (wX ad ca) (tyX ca)) (hr : meth.sig.returnType = (some .int)) {N : Nat} {q79 : St → Int32 → Int32 → Int32 → Option (Int32 × St)} (hq79 : ∀ (σ : St) (y0 : Int32) (y1 : Int32) (y2 : Int32), q79 σ y0 y1 y2 = some (rf, σf) → bW p l e rmX2_mostFrequent s m args below meth c 0 0 (MQ below (Qw D (wX ad ca) σf (some (.int rf)) A) args s 0 0 A) 6 (wd D A (wX ad ca) s σ) 79 [(1, .int y0), (2, .int y1), (3, .int y2)] []) : ∀ n : Nat, ∀ (σ : St) (y0 : Int32) (y1 : Int32) (y2 : Int32) (y3 : Int32), fX2_mostFrequent_31 N q79 n σ y0 y1 y2 y3 = some (rf, σf) → bW p l e rmX2_mostFrequent s m args below meth c 0 0 (MQ below (Qw D (wX ad ca) σf (some (.int rf)) A) args s 0 0 A) 6 (wd D A (wX ad ca) s σ) 31 [(0, .ref (ad 0)), (1, .int y0), (2, .int y1), (3, .int y2), (4, .int y3)] [] := by
  intro n
  induction n with
  | zero => intro σ18 x14 x15 x16 x17 h19; exact nn h19
  | succ n hq31 =>
    intro σ18 x14 x15 x16 x17 h19
    replace h19 : fX2_mostFrequent_31b N q79 (fX2_mostFrequent_31 N q79 n) σ18 x14 x15 x16 x17 = some (rf, σf) := h19
    refine b_iload C 4 dX2_mostFrequent_31 rfl ?_
    refine b_aload_n C 0 dX2_mostFrequent_33 rfl rfl ?_
    refine gX2_53 C X dX2_mostFrequent_34 ?_
    refine b_icmp_ge (tgt := 79) C dX2_mostFrequent_37 (by decide) (fun c20 => ?_) (fun c20 => ?_)
    · have h21 := ipos h19 c20; clear h19
      exact b_sub [1, 2, 3] rfl (hq79 _ _ _ _ h21)
    have h22 := ineg h19 c20; clear h19
    refine b_aload_n C 0 dX2_mostFrequent_40 rfl rfl ?_
    refine b_iload C 4 dX2_mostFrequent_41 rfl ?_
    obtain ⟨r25, σ24, ec23, h23⟩ := bd2_inv h22; clear h22
    refine b_callWi (rest := []) C (sameX ad ca) X dX2_mostFrequent_43 (ctX2_isCorrect ec23) mf_X2_isCorrect mi_X2_isCorrect kl_X2_125 0 rfl rfl rfl rfl ⟨rfl, rfl⟩ ⟨Nat.le_of_ble_eq_true rfl, Nat.le_of_ble_eq_true rfl⟩ ⟨Nat.zero_le _, Nat.zero_le _⟩ rfl (Nat.le_of_ble_eq_true rfl) ?_
    refine b_if_eq (tgt := 58) C dX2_mostFrequent_46 (by decide) (fun c26 => ?_) (fun c26 => ?_)
    · have h27 := ipos h23 c26; clear h23
      refine b_iconst (v := (0 : Int32)) C dX2_mostFrequent_58 (by decide) ?_
      refine b_istore (lv' := [(5, .int (0 : Int32)), (0, .ref (ad 0)), (1, .int x14), (2, .int x15), (3, .int x16), (4, .int x17)]) C dX2_mostFrequent_59 (by decide) rfl ?_
      refine b_iload C 0 dX2_mostFrequent_61 rfl ?_
      refine b_iload_n C 4 dX2_mostFrequent_63 rfl rfl ?_
      refine b_icmp_le (tgt := 73) C dX2_mostFrequent_64 (by decide) (fun c29 => ?_) (fun c29 => ?_)
      · have h30 := ipos h27 c29; clear h27
        obtain ⟨x32, ex32, h33⟩ := lt1_inv h30; clear h30
        refine b_iinc (v := x32) (lv' := [(4, .int x32), (5, .int (0 : Int32)), (0, .ref (ad 0)), (1, .int x14), (2, .int x15), (3, .int x16)]) C 5 dX2_mostFrequent_73 rfl (by rw [ex32]; rfl) (by decide) rfl ?_
        refine b_goto (tgt := 31) C dX2_mostFrequent_76 (by decide) ?_
        exact b_sub [2, 3, 4, 5, 0] rfl (hq31 _ _ _ _ _ h33)
      have h31 := ineg h27 c29; clear h27
      refine b_iload C 0 dX2_mostFrequent_67 rfl ?_
      refine b_istore_n (lv' := [(3, .int (0 : Int32)), (5, .int (0 : Int32)), (0, .ref (ad 0)), (1, .int x14), (2, .int x15), (4, .int x17)]) C dX2_mostFrequent_69 rfl (by decide) rfl ?_
      refine b_iload C 5 dX2_mostFrequent_70 rfl ?_
      refine b_istore_n (lv' := [(2, .int x17), (3, .int (0 : Int32)), (5, .int (0 : Int32)), (0, .ref (ad 0)), (1, .int x14), (4, .int x17)]) C dX2_mostFrequent_72 rfl (by decide) rfl ?_
      obtain ⟨x34, ex34, h35⟩ := lt1_inv h31; clear h31
      refine b_iinc (v := x34) (lv' := [(4, .int x34), (2, .int x17), (3, .int (0 : Int32)), (5, .int (0 : Int32)), (0, .ref (ad 0)), (1, .int x14)]) C 5 dX2_mostFrequent_73 rfl (by rw [ex34]; rfl) (by decide) rfl ?_
      refine b_goto (tgt := 31) C dX2_mostFrequent_76 (by decide) ?_
      exact b_sub [4, 5, 1, 2, 0] rfl (hq31 _ _ _ _ _ h35)
    have h28 := ineg h23 c26; clear h23
    refine b_aload_n C 0 dX2_mostFrequent_49 rfl rfl ?_
    refine b_iload C 4 dX2_mostFrequent_50 rfl ?_
    obtain ⟨r38, σ37, ec36, h36⟩ := bd2_inv h28; clear h28
    refine b_callWi (rest := []) C (sameX ad ca) X dX2_mostFrequent_52 (ctX2_holdersOfValueOf ec36) mf_X2_holdersOfValueOf mi_X2_holdersOfValueOf kl_X2_152 0 rfl rfl rfl rfl ⟨rfl, rfl⟩ ⟨Nat.le_of_ble_eq_true rfl, Nat.le_of_ble_eq_true rfl⟩ ⟨Nat.zero_le _, Nat.zero_le _⟩ rfl (Nat.le_of_ble_eq_true rfl) ?_
    refine b_goto (tgt := 59) C dX2_mostFrequent_55 (by decide) ?_
    refine b_istore (lv' := [(5, .int r38), (0, .ref (ad 0)), (1, .int x14), (2, .int x15), (3, .int x16), (4, .int x17)]) C dX2_mostFrequent_59 (by decide) rfl ?_
    refine b_iload C 0 dX2_mostFrequent_61 rfl ?_
    refine b_iload_n C 4 dX2_mostFrequent_63 rfl rfl ?_
    refine b_icmp_le (tgt := 73) C dX2_mostFrequent_64 (by decide) (fun c39 => ?_) (fun c39 => ?_)
    · have h40 := ipos h36 c39; clear h36
      obtain ⟨x42, ex42, h43⟩ := lt1_inv h40; clear h40
      refine b_iinc (v := x42) (lv' := [(4, .int x42), (5, .int r38), (0, .ref (ad 0)), (1, .int x14), (2, .int x15), (3, .int x16)]) C 5 dX2_mostFrequent_73 rfl (by rw [ex42]; rfl) (by decide) rfl ?_
      refine b_goto (tgt := 31) C dX2_mostFrequent_76 (by decide) ?_
      exact b_sub [2, 3, 4, 5, 0] rfl (hq31 _ _ _ _ _ h43)
    have h41 := ineg h36 c39; clear h36
    refine b_iload C 0 dX2_mostFrequent_67 rfl ?_
    refine b_istore_n (lv' := [(3, .int r38), (5, .int r38), (0, .ref (ad 0)), (1, .int x14), (2, .int x15), (4, .int x17)]) C dX2_mostFrequent_69 rfl (by decide) rfl ?_
    refine b_iload C 5 dX2_mostFrequent_70 rfl ?_
    refine b_istore_n (lv' := [(2, .int x17), (3, .int r38), (5, .int r38), (0, .ref (ad 0)), (1, .int x14), (4, .int x17)]) C dX2_mostFrequent_72 rfl (by decide) rfl ?_
    obtain ⟨x44, ex44, h45⟩ := lt1_inv h41; clear h41
    refine b_iinc (v := x44) (lv' := [(4, .int x44), (2, .int x17), (3, .int r38), (5, .int r38), (0, .ref (ad 0)), (1, .int x14)]) C 5 dX2_mostFrequent_73 rfl (by rw [ex44]; rfl) (by decide) rfl ?_
    refine b_goto (tgt := 31) C dX2_mostFrequent_76 (by decide) ?_
    exact b_sub [4, 5, 1, 2, 0] rfl (hq31 _ _ _ _ _ h45)
theorem ctX2_mostFrequent {l : Launch} {ad : Nat → Nat} {ca : Nat → ClassId} {N : Nat} {σ : St} {a1 : Int32} {rf : Int32} {σf : St} (h : fX2_mostFrequent N σ a1 = some (rf, σf)) : Cw l yX2_mostFrequent cX2_mostFrequent 6 (some .int) rmX2_mostFrequent [.ref (ad 0), .int a1] (wX ad ca) (tyX ca) σ (some (.int rf)) σf := by
  refine Cw_of (by decide) (sameX ad ca) (Nat.le_of_ble_eq_true rfl) ?_
  intro p e s m args below meth c D A C X hr
  replace C : Cb p s m args meth c RX2 cX2_mostFrequent 6 := C
  have h2 := h; clear h
  refine b_sub (lv' := [(0, .ref (ad 0)), (1, .int a1)]) [0, 1] rfl ?_
  refine b_iload_n C 1 dX2_mostFrequent_0 rfl rfl ?_
  refine b_iconst (v := (0 : Int32)) C dX2_mostFrequent_1 (by decide) ?_
  refine b_iconst (v := (1 : Int32)) C dX2_mostFrequent_2 (by decide) ?_
  obtain ⟨r4, ec3, h3⟩ := bd0_inv h2; clear h2
  refine b_callSi (rest := []) C dX2_mostFrequent_3 (ctX2_isWithin ec3) mf_X2_isWithin ms_X2_isWithin kl_X2_49 rfl ⟨rfl, rfl⟩ ⟨Nat.le_of_ble_eq_true rfl, Nat.le_of_ble_eq_true rfl⟩ ⟨Nat.zero_le _, Nat.zero_le _⟩ rfl (Nat.le_of_ble_eq_true rfl) ?_
  refine b_if_ne (tgt := 13) C dX2_mostFrequent_6 (by decide) (fun c5 => ?_) (fun c5 => ?_)
  · have h6 := ineg h3 c5; clear h3
    refine b_aload_n C 0 dX2_mostFrequent_13 rfl rfl ?_
    obtain ⟨r10, σ9, ec8, h8⟩ := bd2_inv h6; clear h6
    refine b_callWi (rest := []) C (sameX ad ca) X dX2_mostFrequent_14 (ctX2_correctSet ec8) mf_X2_correctSet mi_X2_correctSet kl_X2_149 0 rfl rfl rfl rfl ⟨rfl, rfl⟩ ⟨Nat.le_of_ble_eq_true rfl, Nat.le_of_ble_eq_true rfl⟩ ⟨Nat.zero_le _, Nat.zero_le _⟩ rfl (Nat.le_of_ble_eq_true rfl) ?_
    refine b_if_ne (tgt := 24) C dX2_mostFrequent_17 (by decide) (fun c11 => ?_) (fun c11 => ?_)
    · have h12 := ineg h8 c11; clear h8
      refine b_iconst (v := (0 : Int32)) C dX2_mostFrequent_24 (by decide) ?_
      refine b_istore_n (lv' := [(2, .int (0 : Int32)), (0, .ref (ad 0)), (1, .int a1)]) C dX2_mostFrequent_25 rfl (by decide) rfl ?_
      refine b_iconst (v := (0 : Int32)) C dX2_mostFrequent_26 (by decide) ?_
      refine b_istore_n (lv' := [(3, .int (0 : Int32)), (2, .int (0 : Int32)), (0, .ref (ad 0)), (1, .int a1)]) C dX2_mostFrequent_27 rfl (by decide) rfl ?_
      refine b_iconst (v := (0 : Int32)) C dX2_mostFrequent_28 (by decide) ?_
      refine b_istore (lv' := [(4, .int (0 : Int32)), (3, .int (0 : Int32)), (2, .int (0 : Int32)), (0, .ref (ad 0)), (1, .int a1)]) C dX2_mostFrequent_29 (by decide) rfl ?_
      refine b_sub [3, 4, 2, 1, 0] rfl (wX2_mostFrequent_31 C X hr (fun σ49 x46 x47 x48 h50 => ?_) _ _ _ _ _ _ h12)
      refine b_iload_n C 0 dX2_mostFrequent_79 rfl rfl ?_
      refine b_if_ne (tgt := 87) C dX2_mostFrequent_80 (by decide) (fun c51 => ?_) (fun c51 => ?_)
      · have h52 := ineg h50 c51; clear h50
        refine b_iload_n C 2 dX2_mostFrequent_87 rfl rfl ?_
        obtain ⟨rfl, rfl⟩ := so2 h52
        exact b_iret C dX2_mostFrequent_88 hr
      have h53 := ipos h50 c51; clear h50
      refine b_iload_n C 1 dX2_mostFrequent_83 rfl rfl ?_
      refine b_goto (tgt := 88) C dX2_mostFrequent_84 (by decide) ?_
      obtain ⟨rfl, rfl⟩ := so2 h53
      exact b_iret C dX2_mostFrequent_88 hr
    have h13 := ipos h8 c11; clear h8
    refine b_sipush (v := (-1005 : Int32)) C dX2_mostFrequent_20 (by decide) ?_
    obtain ⟨rfl, rfl⟩ := so2 h13
    exact b_iret C dX2_mostFrequent_23 hr
  have h7 := ipos h3 c5; clear h3
  refine b_sipush (v := (-1002 : Int32)) C dX2_mostFrequent_9 (by decide) ?_
  obtain ⟨rfl, rfl⟩ := so2 h7
  exact b_iret C dX2_mostFrequent_12 hr
