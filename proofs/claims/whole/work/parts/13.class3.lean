def rmX2_setRule : Room := { frames := 1, cells := 0, slots := 0, locals := 22 }
def fX2_setRule (σ : St) (a1 : Int32) : Option (Int32 × St) :=
  bd0 (fX2_isWithin a1 (0 : Int32) (3 : Int32)) fun r4 =>
  if r4 = (0 : Int32) then (
  some ((-1002 : Int32), σ))
  else (
  lt1 (gI σ 4) fun x8 =>
  lt1 (sI σ 4 a1) fun σ10 =>
  some (x8, σ10))
theorem ctX2_setRule {l : Launch} {ad : Nat → Nat} {ca : Nat → ClassId} {σ : St} {a1 : Int32} {rf : Int32} {σf : St} (h : fX2_setRule σ a1 = some (rf, σf)) : Cw l yX2_setRule cX2_setRule 3 (some .int) rmX2_setRule [.ref (ad 0), .int a1] (wX ad ca) (tyX ca) σ (some (.int rf)) σf := by
  refine Cw_of (by decide) (sameX ad ca) (Nat.le_of_ble_eq_true rfl) ?_
  intro p e s m args below meth c D A C X hr
  replace C : Cb p s m args meth c RX2 cX2_setRule 3 := C
  have h2 := h; clear h
  refine b_sub (lv' := [(0, .ref (ad 0)), (1, .int a1)]) [0, 1] rfl ?_
  refine b_iload_n C 1 dX2_setRule_0 rfl rfl ?_
  refine b_iconst (v := (0 : Int32)) C dX2_setRule_1 (by decide) ?_
  refine b_iconst (v := (3 : Int32)) C dX2_setRule_2 (by decide) ?_
  obtain ⟨r4, ec3, h3⟩ := bd0_inv h2; clear h2
  refine b_callSi (rest := []) C dX2_setRule_3 (ctX2_isWithin ec3) mf_X2_isWithin ms_X2_isWithin kl_X2_49 rfl ⟨rfl, rfl⟩ ⟨Nat.le_of_ble_eq_true rfl, Nat.le_of_ble_eq_true rfl⟩ ⟨Nat.zero_le _, Nat.zero_le _⟩ rfl (Nat.le_of_ble_eq_true rfl) ?_
  refine b_if_ne (tgt := 13) C dX2_setRule_6 (by decide) (fun c5 => ?_) (fun c5 => ?_)
  · have h6 := ineg h3 c5; clear h3
    refine b_aload_n C 0 dX2_setRule_13 rfl rfl ?_
    refine gX2_98 C X dX2_setRule_14 ?_
    obtain ⟨x8, ex8, h9⟩ := lt1_inv h6; clear h6
    refine b_nmI ex8 ?_
    refine b_istore_n (lv' := [(2, .int x8), (0, .ref (ad 0)), (1, .int a1)]) C dX2_setRule_17 rfl (by decide) rfl ?_
    refine b_aload_n C 1 dX2_setRule_18 rfl rfl ?_
    refine b_iload_n C 2 dX2_setRule_19 rfl rfl ?_
    refine pX2_98 C X dX2_setRule_20 ?_
    obtain ⟨σ10, eσ10, h11⟩ := lt1_inv h9; clear h9
    refine b_nmS eσ10 ?_
    refine b_iload_n C 0 dX2_setRule_23 rfl rfl ?_
    obtain ⟨rfl, rfl⟩ := so2 h11
    exact b_iret C dX2_setRule_24 hr
  have h7 := ipos h3 c5; clear h3
  refine b_sipush (v := (-1002 : Int32)) C dX2_setRule_9 (by decide) ?_
  obtain ⟨rfl, rfl⟩ := so2 h7
  exact b_iret C dX2_setRule_12 hr
def rmX2_isCorrect : Room := { frames := 0, cells := 0, slots := 0, locals := 0 }
def fX2_isCorrect (σ : St) (a1 : Int32) : Option (Int32 × St) :=
  if a1 < (0 : Int32) then (
  some ((0 : Int32), σ))
  else (
  if (gI σ 0) ≤ a1 then (
  some ((0 : Int32), σ))
  else (
  if (a1 < 0 ∨ 10 ≤ (a1).toNatClampNeg) then none else
  if (gF σ 2 (a1).toNatClampNeg) = (0 : Int32) then (
  some ((1 : Int32), σ))
  else (
  some ((0 : Int32), σ))))
theorem ctX2_isCorrect {l : Launch} {ad : Nat → Nat} {ca : Nat → ClassId} {σ : St} {a1 : Int32} {rf : Int32} {σf : St} (h : fX2_isCorrect σ a1 = some (rf, σf)) : Cw l yX2_isCorrect cX2_isCorrect 2 (some .boolean) rmX2_isCorrect [.ref (ad 0), .int a1] (wX ad ca) (tyX ca) σ (some (.int rf)) σf := by
  refine Cw_of (by decide) (sameX ad ca) (Nat.le_of_ble_eq_true rfl) ?_
  intro p e s m args below meth c D A C X hr
  replace C : Cb p s m args meth c RX2 cX2_isCorrect 2 := C
  have h2 := h; clear h
  refine b_sub (lv' := [(0, .ref (ad 0)), (1, .int a1)]) [0, 1] rfl ?_
  refine b_iload_n C 1 dX2_isCorrect_0 rfl rfl ?_
  refine b_if_lt (tgt := 25) C dX2_isCorrect_1 (by decide) (fun c3 => ?_) (fun c3 => ?_)
  · have h4 := ipos h2 c3; clear h2
    refine b_iconst (v := (0 : Int32)) C dX2_isCorrect_25 (by decide) ?_
    obtain ⟨rfl, rfl⟩ := so2 h4
    exact b_zret C dX2_isCorrect_26 hr rfl
  have h5 := ineg h2 c3; clear h2
  refine b_iload_n C 1 dX2_isCorrect_4 rfl rfl ?_
  refine b_aload_n C 0 dX2_isCorrect_5 rfl rfl ?_
  refine gX2_53 C X dX2_isCorrect_6 ?_
  refine b_icmp_ge (tgt := 25) C dX2_isCorrect_9 (by decide) (fun c6 => ?_) (fun c6 => ?_)
  · have h7 := ipos h5 c6; clear h5
    refine b_iconst (v := (0 : Int32)) C dX2_isCorrect_25 (by decide) ?_
    obtain ⟨rfl, rfl⟩ := so2 h7
    exact b_zret C dX2_isCorrect_26 hr rfl
  have h8 := ineg h5 c6; clear h5
  refine b_aload_n C 0 dX2_isCorrect_12 rfl rfl ?_
  refine gX2_34 C X dX2_isCorrect_13 ?_
  refine b_iload_n C 1 dX2_isCorrect_16 rfl rfl ?_
  obtain ⟨g10, h9⟩ := gdn h8; clear h8
  refine lX_10 C X g10 dX2_isCorrect_17 ?_
  refine b_if_ne (tgt := 25) C dX2_isCorrect_18 (by decide) (fun c11 => ?_) (fun c11 => ?_)
  · have h12 := ineg h9 c11; clear h9
    refine b_iconst (v := (0 : Int32)) C dX2_isCorrect_25 (by decide) ?_
    obtain ⟨rfl, rfl⟩ := so2 h12
    exact b_zret C dX2_isCorrect_26 hr rfl
  have h13 := ipos h9 c11; clear h9
  refine b_iconst (v := (1 : Int32)) C dX2_isCorrect_21 (by decide) ?_
  refine b_goto (tgt := 26) C dX2_isCorrect_22 (by decide) ?_
  obtain ⟨rfl, rfl⟩ := so2 h13
  exact b_zret C dX2_isCorrect_26 hr rfl
def rmX2_haveSameValue : Room := { frames := 1, cells := 0, slots := 0, locals := 24 }
def fX2_haveSameValue (σ : St) (a1 : Int32) (a2 : Int32) : Option (Int32 × St) :=
  bd2 (fX2_isCorrect σ a1) fun r6 σ5 =>
  if r6 = (0 : Int32) then (
  some ((0 : Int32), σ5))
  else (
  bd2 (fX2_isCorrect σ5 a2) fun r12 σ11 =>
  if r12 = (0 : Int32) then (
  some ((0 : Int32), σ11))
  else (
  bd2 (fX0_end σ11 3 (gI σ11 3) a1 (0 : Int32)) fun r18 σ17 =>
  bd2 (fX0_end σ17 3 (gI σ17 3) a2 (0 : Int32)) fun r21 σ20 =>
  if r18 = r21 then (
  bd2 (fX0_end σ20 3 (gI σ20 3) a1 (1 : Int32)) fun r27 σ26 =>
  bd2 (fX0_end σ26 3 (gI σ26 3) a2 (1 : Int32)) fun r30 σ29 =>
  if r27 = r30 then (
  some ((1 : Int32), σ29))
  else (
  some ((0 : Int32), σ29)))
  else (
  some ((0 : Int32), σ20))))
theorem ctX2_haveSameValue {l : Launch} {ad : Nat → Nat} {ca : Nat → ClassId} {σ : St} {a1 : Int32} {a2 : Int32} {rf : Int32} {σf : St} (h : fX2_haveSameValue σ a1 a2 = some (rf, σf)) : Cw l yX2_haveSameValue cX2_haveSameValue 3 (some .boolean) rmX2_haveSameValue [.ref (ad 0), .int a1, .int a2] (wX ad ca) (tyX ca) σ (some (.int rf)) σf := by
  refine Cw_of (by decide) (sameX ad ca) (Nat.le_of_ble_eq_true rfl) ?_
  intro p e s m args below meth c D A C X hr
  replace C : Cb p s m args meth c RX2 cX2_haveSameValue 3 := C
  have h3 := h; clear h
  refine b_sub (lv' := [(0, .ref (ad 0)), (1, .int a1), (2, .int a2)]) [0, 1, 2] rfl ?_
  refine b_aload_n C 0 dX2_haveSameValue_0 rfl rfl ?_
  refine b_iload_n C 1 dX2_haveSameValue_1 rfl rfl ?_
  obtain ⟨r6, σ5, ec4, h4⟩ := bd2_inv h3; clear h3
  refine b_callWi (rest := []) C (sameX ad ca) X dX2_haveSameValue_2 (ctX2_isCorrect ec4) mf_X2_isCorrect mi_X2_isCorrect kl_X2_125 0 rfl rfl rfl rfl ⟨rfl, rfl⟩ ⟨Nat.le_of_ble_eq_true rfl, Nat.le_of_ble_eq_true rfl⟩ ⟨Nat.zero_le _, Nat.zero_le _⟩ rfl (Nat.le_of_ble_eq_true rfl) ?_
  refine b_if_eq (tgt := 80) C dX2_haveSameValue_5 (by decide) (fun c7 => ?_) (fun c7 => ?_)
  · have h8 := ipos h4 c7; clear h4
    refine b_iconst (v := (0 : Int32)) C dX2_haveSameValue_80 (by decide) ?_
    obtain ⟨rfl, rfl⟩ := so2 h8
    exact b_zret C dX2_haveSameValue_81 hr rfl
  have h9 := ineg h4 c7; clear h4
  refine b_aload_n C 0 dX2_haveSameValue_8 rfl rfl ?_
  refine b_iload_n C 2 dX2_haveSameValue_9 rfl rfl ?_
  obtain ⟨r12, σ11, ec10, h10⟩ := bd2_inv h9; clear h9
  refine b_callWi (rest := []) C (sameX ad ca) X dX2_haveSameValue_10 (ctX2_isCorrect ec10) mf_X2_isCorrect mi_X2_isCorrect kl_X2_125 0 rfl rfl rfl rfl ⟨rfl, rfl⟩ ⟨Nat.le_of_ble_eq_true rfl, Nat.le_of_ble_eq_true rfl⟩ ⟨Nat.zero_le _, Nat.zero_le _⟩ rfl (Nat.le_of_ble_eq_true rfl) ?_
  refine b_if_eq (tgt := 80) C dX2_haveSameValue_13 (by decide) (fun c13 => ?_) (fun c13 => ?_)
  · have h14 := ipos h10 c13; clear h10
    refine b_iconst (v := (0 : Int32)) C dX2_haveSameValue_80 (by decide) ?_
    obtain ⟨rfl, rfl⟩ := so2 h14
    exact b_zret C dX2_haveSameValue_81 hr rfl
  have h15 := ineg h10 c13; clear h10
  refine b_aload_n C 0 dX2_haveSameValue_16 rfl rfl ?_
  refine gX2_23 C X dX2_haveSameValue_17 ?_
  refine b_aload_n C 0 dX2_haveSameValue_20 rfl rfl ?_
  refine gX2_72 C X dX2_haveSameValue_21 ?_
  refine b_iload_n C 1 dX2_haveSameValue_24 rfl rfl ?_
  refine b_iconst (v := (0 : Int32)) C dX2_haveSameValue_25 (by decide) ?_
  obtain ⟨r18, σ17, ec16, h16⟩ := bd2_inv h15; clear h15
  refine b_callWl (rest := []) C (sameX ad ca) X dX2_haveSameValue_26 (ctX0_end ec16) mf_X0_end mi_X0_end kl_X2_130 3 rfl rfl rfl rfl ⟨rfl, rfl⟩ ⟨Nat.le_of_ble_eq_true rfl, Nat.le_of_ble_eq_true rfl⟩ ⟨Nat.zero_le _, Nat.zero_le _⟩ rfl (Nat.le_of_ble_eq_true rfl) ?_
  refine b_aload_n C 0 dX2_haveSameValue_29 rfl rfl ?_
  refine gX2_23 C X dX2_haveSameValue_30 ?_
  refine b_aload_n C 0 dX2_haveSameValue_33 rfl rfl ?_
  refine gX2_72 C X dX2_haveSameValue_34 ?_
  refine b_iload_n C 2 dX2_haveSameValue_37 rfl rfl ?_
  refine b_iconst (v := (0 : Int32)) C dX2_haveSameValue_38 (by decide) ?_
  obtain ⟨r21, σ20, ec19, h19⟩ := bd2_inv h16; clear h16
  refine b_callWl (rest := [.long r18]) C (sameX ad ca) X dX2_haveSameValue_39 (ctX0_end ec19) mf_X0_end mi_X0_end kl_X2_130 3 rfl rfl rfl rfl ⟨rfl, rfl⟩ ⟨Nat.le_of_ble_eq_true rfl, Nat.le_of_ble_eq_true rfl⟩ ⟨Nat.zero_le _, Nat.zero_le _⟩ rfl (Nat.le_of_ble_eq_true rfl) ?_
  refine b_lc_ne (tgt := 80) C dX2_haveSameValue_42 dX2_haveSameValue_43 (by decide) (fun c22 => ?_) (fun c22 => ?_)
  · have h23 := ineg h19 c22; clear h19
    refine b_iconst (v := (0 : Int32)) C dX2_haveSameValue_80 (by decide) ?_
    obtain ⟨rfl, rfl⟩ := so2 h23
    exact b_zret C dX2_haveSameValue_81 hr rfl
  have h24 := ipos h19 c22; clear h19
  refine b_aload_n C 0 dX2_haveSameValue_46 rfl rfl ?_
  refine gX2_23 C X dX2_haveSameValue_47 ?_
  refine b_aload_n C 0 dX2_haveSameValue_50 rfl rfl ?_
  refine gX2_72 C X dX2_haveSameValue_51 ?_
  refine b_iload_n C 1 dX2_haveSameValue_54 rfl rfl ?_
  refine b_iconst (v := (1 : Int32)) C dX2_haveSameValue_55 (by decide) ?_
  obtain ⟨r27, σ26, ec25, h25⟩ := bd2_inv h24; clear h24
  refine b_callWl (rest := []) C (sameX ad ca) X dX2_haveSameValue_56 (ctX0_end ec25) mf_X0_end mi_X0_end kl_X2_130 3 rfl rfl rfl rfl ⟨rfl, rfl⟩ ⟨Nat.le_of_ble_eq_true rfl, Nat.le_of_ble_eq_true rfl⟩ ⟨Nat.zero_le _, Nat.zero_le _⟩ rfl (Nat.le_of_ble_eq_true rfl) ?_
  refine b_aload_n C 0 dX2_haveSameValue_59 rfl rfl ?_
  refine gX2_23 C X dX2_haveSameValue_60 ?_
  refine b_aload_n C 0 dX2_haveSameValue_63 rfl rfl ?_
  refine gX2_72 C X dX2_haveSameValue_64 ?_
  refine b_iload_n C 2 dX2_haveSameValue_67 rfl rfl ?_
  refine b_iconst (v := (1 : Int32)) C dX2_haveSameValue_68 (by decide) ?_
  obtain ⟨r30, σ29, ec28, h28⟩ := bd2_inv h25; clear h25
  refine b_callWl (rest := [.long r27]) C (sameX ad ca) X dX2_haveSameValue_69 (ctX0_end ec28) mf_X0_end mi_X0_end kl_X2_130 3 rfl rfl rfl rfl ⟨rfl, rfl⟩ ⟨Nat.le_of_ble_eq_true rfl, Nat.le_of_ble_eq_true rfl⟩ ⟨Nat.zero_le _, Nat.zero_le _⟩ rfl (Nat.le_of_ble_eq_true rfl) ?_
  refine b_lc_ne (tgt := 80) C dX2_haveSameValue_72 dX2_haveSameValue_73 (by decide) (fun c31 => ?_) (fun c31 => ?_)
  · have h32 := ineg h28 c31; clear h28
    refine b_iconst (v := (0 : Int32)) C dX2_haveSameValue_80 (by decide) ?_
    obtain ⟨rfl, rfl⟩ := so2 h32
    exact b_zret C dX2_haveSameValue_81 hr rfl
  have h33 := ipos h28 c31; clear h28
  refine b_iconst (v := (1 : Int32)) C dX2_haveSameValue_76 (by decide) ?_
  refine b_goto (tgt := 81) C dX2_haveSameValue_77 (by decide) ?_
  obtain ⟨rfl, rfl⟩ := so2 h33
  exact b_zret C dX2_haveSameValue_81 hr rfl
def rmX2_isFirstHolder : Room := { frames := 2, cells := 0, slots := 0, locals := 46 }
def fX2_isFirstHolder_2b (N : Nat) (q24 : St → Option (Int32 × St)) (q2 : St → Int32 → Int32 → Option (Int32 × St)) (σ5 : St) (x3 : Int32) (x4 : Int32) : Option (Int32 × St) :=
  if x3 ≤ x4 then (
  q24 σ5)
  else (
  bd2 (fX2_haveSameValue σ5 x4 x3) fun r12 σ11 =>
  if r12 = (0 : Int32) then (
  lt1 (x4 + (1 : Int32)) fun x16 =>
  q2 σ11 x3 x16)
  else (
  some ((0 : Int32), σ11)))
def fX2_isFirstHolder_2 (N : Nat) (q24 : St → Option (Int32 × St)) : Nat → St → Int32 → Int32 → Option (Int32 × St)
  | 0, _, _, _ => none
  | n + 1, σ, x3, x4 => fX2_isFirstHolder_2b N q24 (fX2_isFirstHolder_2 N q24 n) σ x3 x4
def fX2_isFirstHolder (N : Nat) (σ : St) (a1 : Int32) : Option (Int32 × St) :=
  fX2_isFirstHolder_2 N (fun σ18 =>
 some ((1 : Int32), σ18)) N σ a1 (0 : Int32)
theorem wX2_isFirstHolder_2 {l : Launch} {p : Program} {e : Env} {s : State} {m : MethodId} {args : Array Value} {below : List Frame} {meth : Method} {c : Code} {D : va_G} {A : Nat → Prop} {ad : Nat → Nat} {ca : Nat → ClassId} {rf : Int32} {σf : St} (C : Cb p s m args meth c RX2 cX2_isFirstHolder 3) (X : Cx s D A (wX ad ca) (tyX ca)) (hr : meth.sig.returnType = (some .boolean)) {N : Nat} {q24 : St → Option (Int32 × St)} (hq24 : ∀ (σ : St), q24 σ = some (rf, σf) → bW p l e rmX2_isFirstHolder s m args below meth c 0 0 (MQ below (Qw D (wX ad ca) σf (some (.int rf)) A) args s 0 0 A) 3 (wd D A (wX ad ca) s σ) 24 [] []) : ∀ n : Nat, ∀ (σ : St) (y0 : Int32) (y1 : Int32), fX2_isFirstHolder_2 N q24 n σ y0 y1 = some (rf, σf) → bW p l e rmX2_isFirstHolder s m args below meth c 0 0 (MQ below (Qw D (wX ad ca) σf (some (.int rf)) A) args s 0 0 A) 3 (wd D A (wX ad ca) s σ) 2 [(0, .ref (ad 0)), (1, .int y0), (2, .int y1)] [] := by
  intro n
  induction n with
  | zero => intro σ5 x3 x4 h6; exact nn h6
  | succ n hq2 =>
    intro σ5 x3 x4 h6
    replace h6 : fX2_isFirstHolder_2b N q24 (fX2_isFirstHolder_2 N q24 n) σ5 x3 x4 = some (rf, σf) := h6
    refine b_iload_n C 2 dX2_isFirstHolder_2 rfl rfl ?_
    refine b_iload_n C 1 dX2_isFirstHolder_3 rfl rfl ?_
    refine b_icmp_ge (tgt := 24) C dX2_isFirstHolder_4 (by decide) (fun c7 => ?_) (fun c7 => ?_)
    · have h8 := ipos h6 c7; clear h6
      exact b_sub [] rfl (hq24 _ h8)
    have h9 := ineg h6 c7; clear h6
    refine b_aload_n C 0 dX2_isFirstHolder_7 rfl rfl ?_
    refine b_iload_n C 2 dX2_isFirstHolder_8 rfl rfl ?_
    refine b_iload_n C 1 dX2_isFirstHolder_9 rfl rfl ?_
    obtain ⟨r12, σ11, ec10, h10⟩ := bd2_inv h9; clear h9
    refine b_callWi (rest := []) C (sameX ad ca) X dX2_isFirstHolder_10 (ctX2_haveSameValue ec10) mf_X2_haveSameValue mi_X2_haveSameValue kl_X2_209 0 rfl rfl rfl rfl ⟨rfl, rfl⟩ ⟨Nat.le_of_ble_eq_true rfl, Nat.le_of_ble_eq_true rfl⟩ ⟨Nat.zero_le _, Nat.zero_le _⟩ rfl (Nat.le_of_ble_eq_true rfl) ?_
    refine b_if_eq (tgt := 18) C dX2_isFirstHolder_13 (by decide) (fun c13 => ?_) (fun c13 => ?_)
    · have h14 := ipos h10 c13; clear h10
      obtain ⟨x16, ex16, h17⟩ := lt1_inv h14; clear h14
      refine b_iinc (v := x16) (lv' := [(2, .int x16), (0, .ref (ad 0)), (1, .int x3)]) C 2 dX2_isFirstHolder_18 rfl (by rw [ex16]; rfl) (by decide) rfl ?_
      refine b_goto (tgt := 2) C dX2_isFirstHolder_21 (by decide) ?_
      exact b_sub [1, 2, 0] rfl (hq2 _ _ _ h17)
    have h15 := ineg h10 c13; clear h10
    refine b_iconst (v := (0 : Int32)) C dX2_isFirstHolder_16 (by decide) ?_
    obtain ⟨rfl, rfl⟩ := so2 h15
    exact b_zret C dX2_isFirstHolder_17 hr rfl
theorem ctX2_isFirstHolder {l : Launch} {ad : Nat → Nat} {ca : Nat → ClassId} {N : Nat} {σ : St} {a1 : Int32} {rf : Int32} {σf : St} (h : fX2_isFirstHolder N σ a1 = some (rf, σf)) : Cw l yX2_isFirstHolder cX2_isFirstHolder 3 (some .boolean) rmX2_isFirstHolder [.ref (ad 0), .int a1] (wX ad ca) (tyX ca) σ (some (.int rf)) σf := by
  refine Cw_of (by decide) (sameX ad ca) (Nat.le_of_ble_eq_true rfl) ?_
  intro p e s m args below meth c D A C X hr
  replace C : Cb p s m args meth c RX2 cX2_isFirstHolder 3 := C
  have h2 := h; clear h
  refine b_sub (lv' := [(0, .ref (ad 0)), (1, .int a1)]) [0, 1] rfl ?_
  refine b_iconst (v := (0 : Int32)) C dX2_isFirstHolder_0 (by decide) ?_
  refine b_istore_n (lv' := [(2, .int (0 : Int32)), (0, .ref (ad 0)), (1, .int a1)]) C dX2_isFirstHolder_1 rfl (by decide) rfl ?_
  refine b_sub [1, 2, 0] rfl (wX2_isFirstHolder_2 C X hr (fun σ18 h19 => ?_) _ _ _ _ h2)
  refine b_iconst (v := (1 : Int32)) C dX2_isFirstHolder_24 (by decide) ?_
  obtain ⟨rfl, rfl⟩ := so2 h19
  exact b_zret C dX2_isFirstHolder_25 hr rfl
def rmX2_differentValues : Room := { frames := 3, cells := 0, slots := 0, locals := 68 }
def fX2_differentValues_4b (N : Nat) (q37 : St → Int32 → Option (Int32 × St)) (q4 : St → Int32 → Int32 → Option (Int32 × St)) (σ4 : St) (x2 : Int32) (x3 : Int32) : Option (Int32 × St) :=
  if (gI σ4 0) ≤ x3 then (
  q37 σ4 x2)
  else (
  bd2 (fX2_isCorrect σ4 x3) fun r11 σ10 =>
  if r11 = (0 : Int32) then (
  lt1 (x3 + (1 : Int32)) fun x15 =>
  q4 σ10 x2 x15)
  else (
  bd2 (fX2_isFirstHolder N σ10 x3) fun r19 σ18 =>
  if r19 = (0 : Int32) then (
  lt1 (x3 + (1 : Int32)) fun x23 =>
  q4 σ18 x2 x23)
  else (
  lt1 (x2 + (1 : Int32)) fun x25 =>
  lt1 (x3 + (1 : Int32)) fun x27 =>
  q4 σ18 x25 x27)))
def fX2_differentValues_4 (N : Nat) (q37 : St → Int32 → Option (Int32 × St)) : Nat → St → Int32 → Int32 → Option (Int32 × St)
  | 0, _, _, _ => none
  | n + 1, σ, x2, x3 => fX2_differentValues_4b N q37 (fX2_differentValues_4 N q37 n) σ x2 x3
def fX2_differentValues (N : Nat) (σ : St) : Option (Int32 × St) :=
  fX2_differentValues_4 N (fun σ30 x29 =>
 some (x29, σ30)) N σ (0 : Int32) (0 : Int32)
theorem wX2_differentValues_4 {l : Launch} {p : Program} {e : Env} {s : State} {m : MethodId} {args : Array Value} {below : List Frame} {meth : Method} {c : Code} {D : va_G} {A : Nat → Prop} {ad : Nat → Nat} {ca : Nat → ClassId} {rf : Int32} {σf : St} (C : Cb p s m args meth c RX2 cX2_differentValues 3) (X : Cx s D A (wX ad ca) (tyX ca)) (hr : meth.sig.returnType = (some .int)) {N : Nat} {q37 : St → Int32 → Option (Int32 × St)} (hq37 : ∀ (σ : St) (y0 : Int32), q37 σ y0 = some (rf, σf) → bW p l e rmX2_differentValues s m args below meth c 0 0 (MQ below (Qw D (wX ad ca) σf (some (.int rf)) A) args s 0 0 A) 3 (wd D A (wX ad ca) s σ) 37 [(1, .int y0)] []) : ∀ n : Nat, ∀ (σ : St) (y0 : Int32) (y1 : Int32), fX2_differentValues_4 N q37 n σ y0 y1 = some (rf, σf) → bW p l e rmX2_differentValues s m args below meth c 0 0 (MQ below (Qw D (wX ad ca) σf (some (.int rf)) A) args s 0 0 A) 3 (wd D A (wX ad ca) s σ) 4 [(0, .ref (ad 0)), (1, .int y0), (2, .int y1)] [] := by
  intro n
  induction n with
  | zero => intro σ4 x2 x3 h5; exact nn h5
  | succ n hq4 =>
    intro σ4 x2 x3 h5
    replace h5 : fX2_differentValues_4b N q37 (fX2_differentValues_4 N q37 n) σ4 x2 x3 = some (rf, σf) := h5
    refine b_iload_n C 2 dX2_differentValues_4 rfl rfl ?_
    refine b_aload_n C 0 dX2_differentValues_5 rfl rfl ?_
    refine gX2_53 C X dX2_differentValues_6 ?_
    refine b_icmp_ge (tgt := 37) C dX2_differentValues_9 (by decide) (fun c6 => ?_) (fun c6 => ?_)
    · have h7 := ipos h5 c6; clear h5
      exact b_sub [1] rfl (hq37 _ _ h7)
    have h8 := ineg h5 c6; clear h5
    refine b_aload_n C 0 dX2_differentValues_12 rfl rfl ?_
    refine b_iload_n C 2 dX2_differentValues_13 rfl rfl ?_
    obtain ⟨r11, σ10, ec9, h9⟩ := bd2_inv h8; clear h8
    refine b_callWi (rest := []) C (sameX ad ca) X dX2_differentValues_14 (ctX2_isCorrect ec9) mf_X2_isCorrect mi_X2_isCorrect kl_X2_125 0 rfl rfl rfl rfl ⟨rfl, rfl⟩ ⟨Nat.le_of_ble_eq_true rfl, Nat.le_of_ble_eq_true rfl⟩ ⟨Nat.zero_le _, Nat.zero_le _⟩ rfl (Nat.le_of_ble_eq_true rfl) ?_
    refine b_if_eq (tgt := 31) C dX2_differentValues_17 (by decide) (fun c12 => ?_) (fun c12 => ?_)
    · have h13 := ipos h9 c12; clear h9
      obtain ⟨x15, ex15, h16⟩ := lt1_inv h13; clear h13
      refine b_iinc (v := x15) (lv' := [(2, .int x15), (0, .ref (ad 0)), (1, .int x2)]) C 2 dX2_differentValues_31 rfl (by rw [ex15]; rfl) (by decide) rfl ?_
      refine b_goto (tgt := 4) C dX2_differentValues_34 (by decide) ?_
      exact b_sub [1, 2, 0] rfl (hq4 _ _ _ h16)
    have h14 := ineg h9 c12; clear h9
    refine b_aload_n C 0 dX2_differentValues_20 rfl rfl ?_
    refine b_iload_n C 2 dX2_differentValues_21 rfl rfl ?_
    obtain ⟨r19, σ18, ec17, h17⟩ := bd2_inv h14; clear h14
    refine b_callWi (rest := []) C (sameX ad ca) X dX2_differentValues_22 (ctX2_isFirstHolder ec17) mf_X2_isFirstHolder mi_X2_isFirstHolder kl_X2_212 0 rfl rfl rfl rfl ⟨rfl, rfl⟩ ⟨Nat.le_of_ble_eq_true rfl, Nat.le_of_ble_eq_true rfl⟩ ⟨Nat.zero_le _, Nat.zero_le _⟩ rfl (Nat.le_of_ble_eq_true rfl) ?_
    refine b_if_eq (tgt := 31) C dX2_differentValues_25 (by decide) (fun c20 => ?_) (fun c20 => ?_)
    · have h21 := ipos h17 c20; clear h17
      obtain ⟨x23, ex23, h24⟩ := lt1_inv h21; clear h21
      refine b_iinc (v := x23) (lv' := [(2, .int x23), (0, .ref (ad 0)), (1, .int x2)]) C 2 dX2_differentValues_31 rfl (by rw [ex23]; rfl) (by decide) rfl ?_
      refine b_goto (tgt := 4) C dX2_differentValues_34 (by decide) ?_
      exact b_sub [1, 2, 0] rfl (hq4 _ _ _ h24)
    have h22 := ineg h17 c20; clear h17
    obtain ⟨x25, ex25, h26⟩ := lt1_inv h22; clear h22
    refine b_iinc (v := x25) (lv' := [(1, .int x25), (0, .ref (ad 0)), (2, .int x3)]) C 1 dX2_differentValues_28 rfl (by rw [ex25]; rfl) (by decide) rfl ?_
    obtain ⟨x27, ex27, h28⟩ := lt1_inv h26; clear h26
    refine b_iinc (v := x27) (lv' := [(2, .int x27), (1, .int x25), (0, .ref (ad 0))]) C 2 dX2_differentValues_31 rfl (by rw [ex27]; rfl) (by decide) rfl ?_
    refine b_goto (tgt := 4) C dX2_differentValues_34 (by decide) ?_
    exact b_sub [2, 1, 0] rfl (hq4 _ _ _ h28)
theorem ctX2_differentValues {l : Launch} {ad : Nat → Nat} {ca : Nat → ClassId} {N : Nat} {σ : St} {rf : Int32} {σf : St} (h : fX2_differentValues N σ = some (rf, σf)) : Cw l yX2_differentValues cX2_differentValues 3 (some .int) rmX2_differentValues [.ref (ad 0)] (wX ad ca) (tyX ca) σ (some (.int rf)) σf := by
  refine Cw_of (by decide) (sameX ad ca) (Nat.le_of_ble_eq_true rfl) ?_
  intro p e s m args below meth c D A C X hr
  replace C : Cb p s m args meth c RX2 cX2_differentValues 3 := C
  have h1 := h; clear h
  refine b_sub (lv' := [(0, .ref (ad 0))]) [0] rfl ?_
  refine b_iconst (v := (0 : Int32)) C dX2_differentValues_0 (by decide) ?_
  refine b_istore_n (lv' := [(1, .int (0 : Int32)), (0, .ref (ad 0))]) C dX2_differentValues_1 rfl (by decide) rfl ?_
  refine b_iconst (v := (0 : Int32)) C dX2_differentValues_2 (by decide) ?_
  refine b_istore_n (lv' := [(2, .int (0 : Int32)), (1, .int (0 : Int32)), (0, .ref (ad 0))]) C dX2_differentValues_3 rfl (by decide) rfl ?_
  refine b_sub [2, 1, 0] rfl (wX2_differentValues_4 C X hr (fun σ30 x29 h31 => ?_) _ _ _ _ h1)
  refine b_iload_n C 0 dX2_differentValues_37 rfl rfl ?_
  obtain ⟨rfl, rfl⟩ := so2 h31
  exact b_iret C dX2_differentValues_38 hr
def rmX2_correctSet : Room := { frames := 0, cells := 0, slots := 0, locals := 0 }
def fX2_correctSet_4b (N : Nat) (q33 : St → Int32 → Option (Int32 × St)) (q4 : St → Int32 → Int32 → Option (Int32 × St)) (σ4 : St) (x2 : Int32) (x3 : Int32) : Option (Int32 × St) :=
  if (gI σ4 0) ≤ x3 then (
  q33 σ4 x2)
  else (
  if (x3 < 0 ∨ 10 ≤ (x3).toNatClampNeg) then none else
  if (gF σ4 2 (x3).toNatClampNeg) = (0 : Int32) then (
  lt1 (x2 ||| ((1 : Int32) <<< (x3 &&& 31))) fun x16 =>
  lt1 (x3 + (1 : Int32)) fun x18 =>
  q4 σ4 x16 x18)
  else (
  lt1 (x3 + (1 : Int32)) fun x14 =>
  q4 σ4 x2 x14))
def fX2_correctSet_4 (N : Nat) (q33 : St → Int32 → Option (Int32 × St)) : Nat → St → Int32 → Int32 → Option (Int32 × St)
  | 0, _, _, _ => none
  | n + 1, σ, x2, x3 => fX2_correctSet_4b N q33 (fX2_correctSet_4 N q33 n) σ x2 x3
def fX2_correctSet (N : Nat) (σ : St) : Option (Int32 × St) :=
  fX2_correctSet_4 N (fun σ21 x20 =>
 some (x20, σ21)) N σ (0 : Int32) (0 : Int32)
theorem wX2_correctSet_4 {l : Launch} {p : Program} {e : Env} {s : State} {m : MethodId} {args : Array Value} {below : List Frame} {meth : Method} {c : Code} {D : va_G} {A : Nat → Prop} {ad : Nat → Nat} {ca : Nat → ClassId} {rf : Int32} {σf : St} (C : Cb p s m args meth c RX2 cX2_correctSet 3) (X : Cx s D A (wX ad ca) (tyX ca)) (hr : meth.sig.returnType = (some .int)) {N : Nat} {q33 : St → Int32 → Option (Int32 × St)} (hq33 : ∀ (σ : St) (y0 : Int32), q33 σ y0 = some (rf, σf) → bW p l e rmX2_correctSet s m args below meth c 0 0 (MQ below (Qw D (wX ad ca) σf (some (.int rf)) A) args s 0 0 A) 3 (wd D A (wX ad ca) s σ) 33 [(1, .int y0)] []) : ∀ n : Nat, ∀ (σ : St) (y0 : Int32) (y1 : Int32), fX2_correctSet_4 N q33 n σ y0 y1 = some (rf, σf) → bW p l e rmX2_correctSet s m args below meth c 0 0 (MQ below (Qw D (wX ad ca) σf (some (.int rf)) A) args s 0 0 A) 3 (wd D A (wX ad ca) s σ) 4 [(0, .ref (ad 0)), (1, .int y0), (2, .int y1)] [] := by
  intro n
  induction n with
  | zero => intro σ4 x2 x3 h5; exact nn h5
  | succ n hq4 =>
    intro σ4 x2 x3 h5
    replace h5 : fX2_correctSet_4b N q33 (fX2_correctSet_4 N q33 n) σ4 x2 x3 = some (rf, σf) := h5
    refine b_iload_n C 2 dX2_correctSet_4 rfl rfl ?_
    refine b_aload_n C 0 dX2_correctSet_5 rfl rfl ?_
    refine gX2_53 C X dX2_correctSet_6 ?_
    refine b_icmp_ge (tgt := 33) C dX2_correctSet_9 (by decide) (fun c6 => ?_) (fun c6 => ?_)
    · have h7 := ipos h5 c6; clear h5
      exact b_sub [1] rfl (hq33 _ _ h7)
    have h8 := ineg h5 c6; clear h5
    refine b_aload_n C 0 dX2_correctSet_12 rfl rfl ?_
    refine gX2_34 C X dX2_correctSet_13 ?_
    refine b_iload_n C 2 dX2_correctSet_16 rfl rfl ?_
    obtain ⟨g10, h9⟩ := gdn h8; clear h8
    refine lX_10 C X g10 dX2_correctSet_17 ?_
    refine b_if_ne (tgt := 27) C dX2_correctSet_18 (by decide) (fun c11 => ?_) (fun c11 => ?_)
    · have h12 := ineg h9 c11; clear h9
      obtain ⟨x14, ex14, h15⟩ := lt1_inv h12; clear h12
      refine b_iinc (v := x14) (lv' := [(2, .int x14), (0, .ref (ad 0)), (1, .int x2)]) C 2 dX2_correctSet_27 rfl (by rw [ex14]; rfl) (by decide) rfl ?_
      refine b_goto (tgt := 4) C dX2_correctSet_30 (by decide) ?_
      exact b_sub [1, 2, 0] rfl (hq4 _ _ _ h15)
    have h13 := ipos h9 c11; clear h9
    refine b_iload_n C 1 dX2_correctSet_21 rfl rfl ?_
    refine b_iconst (v := (1 : Int32)) C dX2_correctSet_22 (by decide) ?_
    refine b_iload_n C 2 dX2_correctSet_23 rfl rfl ?_
    refine b_ishl C dX2_correctSet_24 ?_
    refine b_ior C dX2_correctSet_25 ?_
    obtain ⟨x16, ex16, h17⟩ := lt1_inv h13; clear h13
    refine b_nmI ex16 ?_
    refine b_istore_n (lv' := [(1, .int x16), (0, .ref (ad 0)), (2, .int x3)]) C dX2_correctSet_26 rfl (by decide) rfl ?_
    obtain ⟨x18, ex18, h19⟩ := lt1_inv h17; clear h17
    refine b_iinc (v := x18) (lv' := [(2, .int x18), (1, .int x16), (0, .ref (ad 0))]) C 2 dX2_correctSet_27 rfl (by rw [ex18]; rfl) (by decide) rfl ?_
    refine b_goto (tgt := 4) C dX2_correctSet_30 (by decide) ?_
    exact b_sub [2, 1, 0] rfl (hq4 _ _ _ h19)
theorem ctX2_correctSet {l : Launch} {ad : Nat → Nat} {ca : Nat → ClassId} {N : Nat} {σ : St} {rf : Int32} {σf : St} (h : fX2_correctSet N σ = some (rf, σf)) : Cw l yX2_correctSet cX2_correctSet 3 (some .int) rmX2_correctSet [.ref (ad 0)] (wX ad ca) (tyX ca) σ (some (.int rf)) σf := by
  refine Cw_of (by decide) (sameX ad ca) (Nat.le_of_ble_eq_true rfl) ?_
  intro p e s m args below meth c D A C X hr
  replace C : Cb p s m args meth c RX2 cX2_correctSet 3 := C
  have h1 := h; clear h
  refine b_sub (lv' := [(0, .ref (ad 0))]) [0] rfl ?_
  refine b_iconst (v := (0 : Int32)) C dX2_correctSet_0 (by decide) ?_
  refine b_istore_n (lv' := [(1, .int (0 : Int32)), (0, .ref (ad 0))]) C dX2_correctSet_1 rfl (by decide) rfl ?_
  refine b_iconst (v := (0 : Int32)) C dX2_correctSet_2 (by decide) ?_
  refine b_istore_n (lv' := [(2, .int (0 : Int32)), (1, .int (0 : Int32)), (0, .ref (ad 0))]) C dX2_correctSet_3 rfl (by decide) rfl ?_
  refine b_sub [2, 1, 0] rfl (wX2_correctSet_4 C X hr (fun σ21 x20 h22 => ?_) _ _ _ _ h1)
  refine b_iload_n C 0 dX2_correctSet_33 rfl rfl ?_
  obtain ⟨rfl, rfl⟩ := so2 h22
  exact b_iret C dX2_correctSet_34 hr
def rmX2_faultyNodes : Room := { frames := 1, cells := 0, slots := 0, locals := 22 }
def fX2_faultyNodes (N : Nat) (σ : St) : Option (Int32 × St) :=
  bd2 (fX2_correctSet N σ) fun r4 σ3 =>
  bd0 (fJ6_bitCount_0f7a4 r4) fun r6 =>
  some (((gI σ 0) - r6), σ3)
theorem ctX2_faultyNodes {l : Launch} {ad : Nat → Nat} {ca : Nat → ClassId} {N : Nat} {σ : St} {rf : Int32} {σf : St} (h : fX2_faultyNodes N σ = some (rf, σf)) : Cw l yX2_faultyNodes cX2_faultyNodes 1 (some .int) rmX2_faultyNodes [.ref (ad 0)] (wX ad ca) (tyX ca) σ (some (.int rf)) σf := by
  refine Cw_of (by decide) (sameX ad ca) (Nat.le_of_ble_eq_true rfl) ?_
  intro p e s m args below meth c D A C X hr
  replace C : Cb p s m args meth c RX2 cX2_faultyNodes 1 := C
  have h1 := h; clear h
  refine b_sub (lv' := [(0, .ref (ad 0))]) [0] rfl ?_
  refine b_aload_n C 0 dX2_faultyNodes_0 rfl rfl ?_
  refine gX2_53 C X dX2_faultyNodes_1 ?_
  refine b_aload_n C 0 dX2_faultyNodes_4 rfl rfl ?_
  obtain ⟨r4, σ3, ec2, h2⟩ := bd2_inv h1; clear h1
  refine b_callWi (rest := [.int (gI σ 0)]) C (sameX ad ca) X dX2_faultyNodes_5 (ctX2_correctSet ec2) mf_X2_correctSet mi_X2_correctSet kl_X2_149 0 rfl rfl rfl rfl ⟨rfl, rfl⟩ ⟨Nat.le_of_ble_eq_true rfl, Nat.le_of_ble_eq_true rfl⟩ ⟨Nat.zero_le _, Nat.zero_le _⟩ rfl (Nat.le_of_ble_eq_true rfl) ?_
  obtain ⟨r6, ec5, h5⟩ := bd0_inv h2; clear h2
  refine b_callSi (rest := [.int (gI σ 0)]) C dX2_faultyNodes_8 (ctJ6_bitCount_0f7a4 ec5) mf_J6_bitCount_0f7a4 ms_J6_bitCount_0f7a4 kl_X2_204 rfl ⟨rfl, rfl⟩ ⟨Nat.le_of_ble_eq_true rfl, Nat.le_of_ble_eq_true rfl⟩ ⟨Nat.zero_le _, Nat.zero_le _⟩ rfl (Nat.le_of_ble_eq_true rfl) ?_
  refine b_isub C dX2_faultyNodes_11 ?_
  obtain ⟨rfl, rfl⟩ := so2 h5
  exact b_iret C dX2_faultyNodes_12 hr
def rmX2_linksWithDelay : Room := { frames := 1, cells := 0, slots := 0, locals := 23 }
def fX2_linksWithDelay_15b (N : Nat) (q54 : St → Int32 → Int32 → Int32 → Option (Int32 × St)) (q15 : St → Int32 → Int32 → Int32 → Int32 → Option (Int32 × St)) (σ15 : St) (x11 : Int32) (x12 : Int32) (x13 : Int32) (x14 : Int32) : Option (Int32 × St) :=
  if (gI σ15 0) ≤ x14 then (
  q54 σ15 x11 x12 x13)
  else (
  if x13 = x14 then (
  lt1 (x14 + (1 : Int32)) fun x23 =>
  q15 σ15 x11 x12 x13 x23)
  else (
  bd2 (fX2_delayOf σ15 x13 x14) fun r27 σ26 =>
  bd0 (fX2_isWithin r27 (0 : Int32) x11) fun r29 =>
  if r29 = (0 : Int32) then (
  lt1 (x14 + (1 : Int32)) fun x33 =>
  q15 σ26 x11 x12 x13 x33)
  else (
  lt1 (x12 + (1 : Int32)) fun x35 =>
  lt1 (x14 + (1 : Int32)) fun x37 =>
  q15 σ26 x11 x35 x13 x37)))
def fX2_linksWithDelay_15 (N : Nat) (q54 : St → Int32 → Int32 → Int32 → Option (Int32 × St)) : Nat → St → Int32 → Int32 → Int32 → Int32 → Option (Int32 × St)
  | 0, _, _, _, _, _ => none
  | n + 1, σ, x11, x12, x13, x14 => fX2_linksWithDelay_15b N q54 (fX2_linksWithDelay_15 N q54 n) σ x11 x12 x13 x14
def fX2_linksWithDelay_4b (N : Nat) (q60 : St → Int32 → Option (Int32 × St)) (q4 : St → Int32 → Int32 → Int32 → Option (Int32 × St)) (σ6 : St) (x3 : Int32) (x4 : Int32) (x5 : Int32) : Option (Int32 × St) :=
  if (gI σ6 0) ≤ x5 then (
  q60 σ6 x4)
  else (
  fX2_linksWithDelay_15 N (fun σ42 x39 x40 x41 =>
 lt1 (x41 + (1 : Int32)) fun x44 =>
  q4 σ42 x39 x40 x44) N σ6 x3 x4 x5 (0 : Int32))
def fX2_linksWithDelay_4 (N : Nat) (q60 : St → Int32 → Option (Int32 × St)) : Nat → St → Int32 → Int32 → Int32 → Option (Int32 × St)
  | 0, _, _, _, _ => none
  | n + 1, σ, x3, x4, x5 => fX2_linksWithDelay_4b N q60 (fX2_linksWithDelay_4 N q60 n) σ x3 x4 x5
def fX2_linksWithDelay (N : Nat) (σ : St) (a1 : Int32) : Option (Int32 × St) :=
  fX2_linksWithDelay_4 N (fun σ47 x46 =>
 some (x46, σ47)) N σ a1 (0 : Int32) (0 : Int32)
theorem wX2_linksWithDelay_15 {l : Launch} {p : Program} {e : Env} {s : State} {m : MethodId} {args : Array Value} {below : List Frame} {meth : Method} {c : Code} {D : va_G} {A : Nat → Prop} {ad : Nat → Nat} {ca : Nat → ClassId} {rf : Int32} {σf : St} (C : Cb p s m args meth c RX2 cX2_linksWithDelay 5) (X : Cx s D A (wX ad ca) (tyX ca)) (hr : meth.sig.returnType = (some .int)) {N : Nat} {q54 : St → Int32 → Int32 → Int32 → Option (Int32 × St)} (hq54 : ∀ (σ : St) (y0 : Int32) (y1 : Int32) (y2 : Int32), q54 σ y0 y1 y2 = some (rf, σf) → bW p l e rmX2_linksWithDelay s m args below meth c 0 0 (MQ below (Qw D (wX ad ca) σf (some (.int rf)) A) args s 0 0 A) 5 (wd D A (wX ad ca) s σ) 54 [(0, .ref (ad 0)), (1, .int y0), (2, .int y1), (3, .int y2)] []) : ∀ n : Nat, ∀ (σ : St) (y0 : Int32) (y1 : Int32) (y2 : Int32) (y3 : Int32), fX2_linksWithDelay_15 N q54 n σ y0 y1 y2 y3 = some (rf, σf) → bW p l e rmX2_linksWithDelay s m args below meth c 0 0 (MQ below (Qw D (wX ad ca) σf (some (.int rf)) A) args s 0 0 A) 5 (wd D A (wX ad ca) s σ) 15 [(0, .ref (ad 0)), (1, .int y0), (2, .int y1), (3, .int y2), (4, .int y3)] [] := by
  intro n
  induction n with
  | zero => intro σ15 x11 x12 x13 x14 h16; exact nn h16
  | succ n hq15 =>
    intro σ15 x11 x12 x13 x14 h16
    replace h16 : fX2_linksWithDelay_15b N q54 (fX2_linksWithDelay_15 N q54 n) σ15 x11 x12 x13 x14 = some (rf, σf) := h16
    refine b_iload C 4 dX2_linksWithDelay_15 rfl ?_
    refine b_aload_n C 0 dX2_linksWithDelay_17 rfl rfl ?_
    refine gX2_53 C X dX2_linksWithDelay_18 ?_
    refine b_icmp_ge (tgt := 54) C dX2_linksWithDelay_21 (by decide) (fun c17 => ?_) (fun c17 => ?_)
    · have h18 := ipos h16 c17; clear h16
      exact b_sub [0, 1, 2, 3] rfl (hq54 _ _ _ _ h18)
    have h19 := ineg h16 c17; clear h16
    refine b_iload_n C 3 dX2_linksWithDelay_24 rfl rfl ?_
    refine b_iload C 4 dX2_linksWithDelay_25 rfl ?_
    refine b_icmp_eq (tgt := 48) C dX2_linksWithDelay_27 (by decide) (fun c20 => ?_) (fun c20 => ?_)
    · have h21 := ipos h19 c20; clear h19
      obtain ⟨x23, ex23, h24⟩ := lt1_inv h21; clear h21
      refine b_iinc (v := x23) (lv' := [(4, .int x23), (0, .ref (ad 0)), (1, .int x11), (2, .int x12), (3, .int x13)]) C 4 dX2_linksWithDelay_48 rfl (by rw [ex23]; rfl) (by decide) rfl ?_
      refine b_goto (tgt := 15) C dX2_linksWithDelay_51 (by decide) ?_
      exact b_sub [1, 2, 3, 4, 0] rfl (hq15 _ _ _ _ _ h24)
    have h22 := ineg h19 c20; clear h19
    refine b_aload_n C 0 dX2_linksWithDelay_30 rfl rfl ?_
    refine b_iload_n C 3 dX2_linksWithDelay_31 rfl rfl ?_
    refine b_iload C 4 dX2_linksWithDelay_32 rfl ?_
    obtain ⟨r27, σ26, ec25, h25⟩ := bd2_inv h22; clear h22
    refine b_callWi (rest := []) C (sameX ad ca) X dX2_linksWithDelay_34 (ctX2_delayOf ec25) mf_X2_delayOf mi_X2_delayOf kl_X2_94 0 rfl rfl rfl rfl ⟨rfl, rfl⟩ ⟨Nat.le_of_ble_eq_true rfl, Nat.le_of_ble_eq_true rfl⟩ ⟨Nat.zero_le _, Nat.zero_le _⟩ rfl (Nat.le_of_ble_eq_true rfl) ?_
    refine b_iconst (v := (0 : Int32)) C dX2_linksWithDelay_37 (by decide) ?_
    refine b_iload_n C 1 dX2_linksWithDelay_38 rfl rfl ?_
    obtain ⟨r29, ec28, h28⟩ := bd0_inv h25; clear h25
    refine b_callSi (rest := []) C dX2_linksWithDelay_39 (ctX2_isWithin ec28) mf_X2_isWithin ms_X2_isWithin kl_X2_49 rfl ⟨rfl, rfl⟩ ⟨Nat.le_of_ble_eq_true rfl, Nat.le_of_ble_eq_true rfl⟩ ⟨Nat.zero_le _, Nat.zero_le _⟩ rfl (Nat.le_of_ble_eq_true rfl) ?_
    refine b_if_eq (tgt := 48) C dX2_linksWithDelay_42 (by decide) (fun c30 => ?_) (fun c30 => ?_)
    · have h31 := ipos h28 c30; clear h28
      obtain ⟨x33, ex33, h34⟩ := lt1_inv h31; clear h31
      refine b_iinc (v := x33) (lv' := [(4, .int x33), (0, .ref (ad 0)), (1, .int x11), (2, .int x12), (3, .int x13)]) C 4 dX2_linksWithDelay_48 rfl (by rw [ex33]; rfl) (by decide) rfl ?_
      refine b_goto (tgt := 15) C dX2_linksWithDelay_51 (by decide) ?_
      exact b_sub [1, 2, 3, 4, 0] rfl (hq15 _ _ _ _ _ h34)
    have h32 := ineg h28 c30; clear h28
    obtain ⟨x35, ex35, h36⟩ := lt1_inv h32; clear h32
    refine b_iinc (v := x35) (lv' := [(2, .int x35), (0, .ref (ad 0)), (1, .int x11), (3, .int x13), (4, .int x14)]) C 2 dX2_linksWithDelay_45 rfl (by rw [ex35]; rfl) (by decide) rfl ?_
    obtain ⟨x37, ex37, h38⟩ := lt1_inv h36; clear h36
    refine b_iinc (v := x37) (lv' := [(4, .int x37), (2, .int x35), (0, .ref (ad 0)), (1, .int x11), (3, .int x13)]) C 4 dX2_linksWithDelay_48 rfl (by rw [ex37]; rfl) (by decide) rfl ?_
    refine b_goto (tgt := 15) C dX2_linksWithDelay_51 (by decide) ?_
    exact b_sub [2, 3, 1, 4, 0] rfl (hq15 _ _ _ _ _ h38)
theorem wX2_linksWithDelay_4 {l : Launch} {p : Program} {e : Env} {s : State} {m : MethodId} {args : Array Value} {below : List Frame} {meth : Method} {c : Code} {D : va_G} {A : Nat → Prop} {ad : Nat → Nat} {ca : Nat → ClassId} {rf : Int32} {σf : St} (C : Cb p s m args meth c RX2 cX2_linksWithDelay 5) (X : Cx s D A (wX ad ca) (tyX ca)) (hr : meth.sig.returnType = (some .int)) {N : Nat} {q60 : St → Int32 → Option (Int32 × St)} (hq60 : ∀ (σ : St) (y0 : Int32), q60 σ y0 = some (rf, σf) → bW p l e rmX2_linksWithDelay s m args below meth c 0 0 (MQ below (Qw D (wX ad ca) σf (some (.int rf)) A) args s 0 0 A) 5 (wd D A (wX ad ca) s σ) 60 [(2, .int y0)] []) : ∀ n : Nat, ∀ (σ : St) (y0 : Int32) (y1 : Int32) (y2 : Int32), fX2_linksWithDelay_4 N q60 n σ y0 y1 y2 = some (rf, σf) → bW p l e rmX2_linksWithDelay s m args below meth c 0 0 (MQ below (Qw D (wX ad ca) σf (some (.int rf)) A) args s 0 0 A) 5 (wd D A (wX ad ca) s σ) 4 [(0, .ref (ad 0)), (1, .int y0), (2, .int y1), (3, .int y2)] [] := by
  intro n
  induction n with
  | zero => intro σ6 x3 x4 x5 h7; exact nn h7
  | succ n hq4 =>
    intro σ6 x3 x4 x5 h7
    replace h7 : fX2_linksWithDelay_4b N q60 (fX2_linksWithDelay_4 N q60 n) σ6 x3 x4 x5 = some (rf, σf) := h7
    refine b_iload_n C 3 dX2_linksWithDelay_4 rfl rfl ?_
    refine b_aload_n C 0 dX2_linksWithDelay_5 rfl rfl ?_
    refine gX2_53 C X dX2_linksWithDelay_6 ?_
    refine b_icmp_ge (tgt := 60) C dX2_linksWithDelay_9 (by decide) (fun c8 => ?_) (fun c8 => ?_)
    · have h9 := ipos h7 c8; clear h7
      exact b_sub [2] rfl (hq60 _ _ h9)
    have h10 := ineg h7 c8; clear h7
    refine b_iconst (v := (0 : Int32)) C dX2_linksWithDelay_12 (by decide) ?_
    refine b_istore (lv' := [(4, .int (0 : Int32)), (0, .ref (ad 0)), (1, .int x3), (2, .int x4), (3, .int x5)]) C dX2_linksWithDelay_13 (by decide) rfl ?_
    refine b_sub [1, 2, 3, 4, 0] rfl (wX2_linksWithDelay_15 C X hr (fun σ42 x39 x40 x41 h43 => ?_) _ _ _ _ _ _ h10)
    obtain ⟨x44, ex44, h45⟩ := lt1_inv h43; clear h43
    refine b_iinc (v := x44) (lv' := [(3, .int x44), (0, .ref (ad 0)), (1, .int x39), (2, .int x40)]) C 3 dX2_linksWithDelay_54 rfl (by rw [ex44]; rfl) (by decide) rfl ?_
    refine b_goto (tgt := 4) C dX2_linksWithDelay_57 (by decide) ?_
    exact b_sub [1, 2, 3, 0] rfl (hq4 _ _ _ _ h45)
theorem ctX2_linksWithDelay {l : Launch} {ad : Nat → Nat} {ca : Nat → ClassId} {N : Nat} {σ : St} {a1 : Int32} {rf : Int32} {σf : St} (h : fX2_linksWithDelay N σ a1 = some (rf, σf)) : Cw l yX2_linksWithDelay cX2_linksWithDelay 5 (some .int) rmX2_linksWithDelay [.ref (ad 0), .int a1] (wX ad ca) (tyX ca) σ (some (.int rf)) σf := by
  refine Cw_of (by decide) (sameX ad ca) (Nat.le_of_ble_eq_true rfl) ?_
  intro p e s m args below meth c D A C X hr
  replace C : Cb p s m args meth c RX2 cX2_linksWithDelay 5 := C
  have h2 := h; clear h
  refine b_sub (lv' := [(0, .ref (ad 0)), (1, .int a1)]) [0, 1] rfl ?_
  refine b_iconst (v := (0 : Int32)) C dX2_linksWithDelay_0 (by decide) ?_
  refine b_istore_n (lv' := [(2, .int (0 : Int32)), (0, .ref (ad 0)), (1, .int a1)]) C dX2_linksWithDelay_1 rfl (by decide) rfl ?_
  refine b_iconst (v := (0 : Int32)) C dX2_linksWithDelay_2 (by decide) ?_
  refine b_istore_n (lv' := [(3, .int (0 : Int32)), (2, .int (0 : Int32)), (0, .ref (ad 0)), (1, .int a1)]) C dX2_linksWithDelay_3 rfl (by decide) rfl ?_
  refine b_sub [2, 3, 1, 0] rfl (wX2_linksWithDelay_4 C X hr (fun σ47 x46 h48 => ?_) _ _ _ _ _ h2)
  refine b_iload_n C 0 dX2_linksWithDelay_60 rfl rfl ?_
  obtain ⟨rfl, rfl⟩ := so2 h48
  exact b_iret C dX2_linksWithDelay_61 hr
def rmX2_count : Room := { frames := 4, cells := 0, slots := 0, locals := 90 }
def fX2_count (N : Nat) (σ : St) (a1 : Int32) : Option (Int32 × St) :=
  if a1 = (0 : Int32) then (
  some ((gI σ 0), σ))
  else if a1 = (1 : Int32) then (
  some ((gI σ 1), σ))
  else if a1 = (2 : Int32) then (
  some ((gI σ 2), σ))
  else if a1 = (3 : Int32) then (
  some ((gI σ 3), σ))
  else if a1 = (4 : Int32) then (
  bd2 (fX2_faultyNodes N σ) fun r20 σ19 =>
  some (r20, σ19))
  else if a1 = (5 : Int32) then (
  some ((gI σ 4), σ))
  else if a1 = (6 : Int32) then (
  bd2 (fX2_linksWithDelay N σ (3 : Int32)) fun r29 σ28 =>
  some (r29, σ28))
  else if a1 = (7 : Int32) then (
  bd2 (fX2_differentValues N σ) fun r35 σ34 =>
  some (r35, σ34))
  else (
  some ((-1002 : Int32), σ))
theorem ctX2_count {l : Launch} {ad : Nat → Nat} {ca : Nat → ClassId} {N : Nat} {σ : St} {a1 : Int32} {rf : Int32} {σf : St} (h : fX2_count N σ a1 = some (rf, σf)) : Cw l yX2_count cX2_count 2 (some .int) rmX2_count [.ref (ad 0), .int a1] (wX ad ca) (tyX ca) σ (some (.int rf)) σf := by
  refine Cw_of (by decide) (sameX ad ca) (Nat.le_of_ble_eq_true rfl) ?_
  intro p e s m args below meth c D A C X hr
  replace C : Cb p s m args meth c RX2 cX2_count 2 := C
  have h2 := h; clear h
  refine b_sub (lv' := [(0, .ref (ad 0)), (1, .int a1)]) [0, 1] rfl ?_
  refine b_iload_n C 1 dX2_count_0 rfl rfl ?_
  rcases Classical.em (a1 = (0 : Int32)) with c3 | c3
  · have h4 := ipos h2 c3; clear h2
    refine b_tswIn (off := 47) (tgt := 48) (kx := (0 : Int32)) C dX2_count_1 c3 (by decide) (by decide) (by decide) (by decide) ?_
    refine b_aload_n C 0 dX2_count_48 rfl rfl ?_
    refine gX2_53 C X dX2_count_49 ?_
    obtain ⟨rfl, rfl⟩ := so2 h4
    exact b_iret C dX2_count_52 hr
  have h5 := ineg h2 c3; clear h2
  rcases Classical.em (a1 = (1 : Int32)) with c6 | c6
  · have h7 := ipos h5 c6; clear h5
    refine b_tswIn (off := 52) (tgt := 53) (kx := (1 : Int32)) C dX2_count_1 c6 (by decide) (by decide) (by decide) (by decide) ?_
    refine b_aload_n C 0 dX2_count_53 rfl rfl ?_
    refine gX2_101 C X dX2_count_54 ?_
    obtain ⟨rfl, rfl⟩ := so2 h7
    exact b_iret C dX2_count_57 hr
  have h8 := ineg h5 c6; clear h5
  rcases Classical.em (a1 = (2 : Int32)) with c9 | c9
  · have h10 := ipos h8 c9; clear h8
    refine b_tswIn (off := 57) (tgt := 58) (kx := (2 : Int32)) C dX2_count_1 c9 (by decide) (by decide) (by decide) (by decide) ?_
    refine b_aload_n C 0 dX2_count_58 rfl rfl ?_
    refine gX2_83 C X dX2_count_59 ?_
    obtain ⟨rfl, rfl⟩ := so2 h10
    exact b_iret C dX2_count_62 hr
  have h11 := ineg h8 c9; clear h8
  rcases Classical.em (a1 = (3 : Int32)) with c12 | c12
  · have h13 := ipos h11 c12; clear h11
    refine b_tswIn (off := 62) (tgt := 63) (kx := (3 : Int32)) C dX2_count_1 c12 (by decide) (by decide) (by decide) (by decide) ?_
    refine b_aload_n C 0 dX2_count_63 rfl rfl ?_
    refine gX2_72 C X dX2_count_64 ?_
    obtain ⟨rfl, rfl⟩ := so2 h13
    exact b_iret C dX2_count_67 hr
  have h14 := ineg h11 c12; clear h11
  rcases Classical.em (a1 = (4 : Int32)) with c15 | c15
  · have h16 := ipos h14 c15; clear h14
    refine b_tswIn (off := 67) (tgt := 68) (kx := (4 : Int32)) C dX2_count_1 c15 (by decide) (by decide) (by decide) (by decide) ?_
    refine b_aload_n C 0 dX2_count_68 rfl rfl ?_
    obtain ⟨r20, σ19, ec18, h18⟩ := bd2_inv h16; clear h16
    refine b_callWi (rest := []) C (sameX ad ca) X dX2_count_69 (ctX2_faultyNodes ec18) mf_X2_faultyNodes mi_X2_faultyNodes kl_X2_104 0 rfl rfl rfl rfl ⟨rfl, rfl⟩ ⟨Nat.le_of_ble_eq_true rfl, Nat.le_of_ble_eq_true rfl⟩ ⟨Nat.zero_le _, Nat.zero_le _⟩ rfl (Nat.le_of_ble_eq_true rfl) ?_
    obtain ⟨rfl, rfl⟩ := so2 h18
    exact b_iret C dX2_count_72 hr
  have h17 := ineg h14 c15; clear h14
  rcases Classical.em (a1 = (5 : Int32)) with c21 | c21
  · have h22 := ipos h17 c21; clear h17
    refine b_tswIn (off := 72) (tgt := 73) (kx := (5 : Int32)) C dX2_count_1 c21 (by decide) (by decide) (by decide) (by decide) ?_
    refine b_aload_n C 0 dX2_count_73 rfl rfl ?_
    refine gX2_98 C X dX2_count_74 ?_
    obtain ⟨rfl, rfl⟩ := so2 h22
    exact b_iret C dX2_count_77 hr
  have h23 := ineg h17 c21; clear h17
  rcases Classical.em (a1 = (6 : Int32)) with c24 | c24
  · have h25 := ipos h23 c24; clear h23
    refine b_tswIn (off := 77) (tgt := 78) (kx := (6 : Int32)) C dX2_count_1 c24 (by decide) (by decide) (by decide) (by decide) ?_
    refine b_aload_n C 0 dX2_count_78 rfl rfl ?_
    refine b_iconst (v := (3 : Int32)) C dX2_count_79 (by decide) ?_
    obtain ⟨r29, σ28, ec27, h27⟩ := bd2_inv h25; clear h25
    refine b_callWi (rest := []) C (sameX ad ca) X dX2_count_80 (ctX2_linksWithDelay ec27) mf_X2_linksWithDelay mi_X2_linksWithDelay kl_X2_107 0 rfl rfl rfl rfl ⟨rfl, rfl⟩ ⟨Nat.le_of_ble_eq_true rfl, Nat.le_of_ble_eq_true rfl⟩ ⟨Nat.zero_le _, Nat.zero_le _⟩ rfl (Nat.le_of_ble_eq_true rfl) ?_
    obtain ⟨rfl, rfl⟩ := so2 h27
    exact b_iret C dX2_count_83 hr
  have h26 := ineg h23 c24; clear h23
  rcases Classical.em (a1 = (7 : Int32)) with c30 | c30
  · have h31 := ipos h26 c30; clear h26
    refine b_tswIn (off := 83) (tgt := 84) (kx := (7 : Int32)) C dX2_count_1 c30 (by decide) (by decide) (by decide) (by decide) ?_
    refine b_aload_n C 0 dX2_count_84 rfl rfl ?_
    obtain ⟨r35, σ34, ec33, h33⟩ := bd2_inv h31; clear h31
    refine b_callWi (rest := []) C (sameX ad ca) X dX2_count_85 (ctX2_differentValues ec33) mf_X2_differentValues mi_X2_differentValues kl_X2_111 0 rfl rfl rfl rfl ⟨rfl, rfl⟩ ⟨Nat.le_of_ble_eq_true rfl, Nat.le_of_ble_eq_true rfl⟩ ⟨Nat.zero_le _, Nat.zero_le _⟩ rfl (Nat.le_of_ble_eq_true rfl) ?_
    obtain ⟨rfl, rfl⟩ := so2 h33
    exact b_iret C dX2_count_88 hr
  have h32 := ineg h26 c30; clear h26
  refine b_tswOut (tgt := 89) C dX2_count_1 (by have q0 := i32_ne c3 (z := 0) (by decide); have q1 := i32_ne c6 (z := 1) (by decide); have q2 := i32_ne c9 (z := 2) (by decide); have q3 := i32_ne c12 (z := 3) (by decide); have q4 := i32_ne c15 (z := 4) (by decide); have q5 := i32_ne c21 (z := 5) (by decide); have q6 := i32_ne c24 (z := 6) (by decide); have q7 := i32_ne c30 (z := 7) (by decide); omega) (by decide) ?_
  refine b_sipush (v := (-1002 : Int32)) C dX2_count_89 (by decide) ?_
  obtain ⟨rfl, rfl⟩ := so2 h32
  exact b_iret C dX2_count_92 hr
def rmX2_strategy : Room := { frames := 1, cells := 0, slots := 0, locals := 21 }
def fX2_strategy (σ : St) (a1 : Int32) : Option (Int32 × St) :=
  bd2 (fX2_isNode σ a1) fun r5 σ4 =>
  if r5 = (0 : Int32) then (
  some ((-1001 : Int32), σ4))
  else (
  if (a1 < 0 ∨ 10 ≤ (a1).toNatClampNeg) then none else
  some ((gF σ4 2 (a1).toNatClampNeg), σ4))
theorem ctX2_strategy {l : Launch} {ad : Nat → Nat} {ca : Nat → ClassId} {σ : St} {a1 : Int32} {rf : Int32} {σf : St} (h : fX2_strategy σ a1 = some (rf, σf)) : Cw l yX2_strategy cX2_strategy 2 (some .int) rmX2_strategy [.ref (ad 0), .int a1] (wX ad ca) (tyX ca) σ (some (.int rf)) σf := by
  refine Cw_of (by decide) (sameX ad ca) (Nat.le_of_ble_eq_true rfl) ?_
  intro p e s m args below meth c D A C X hr
  replace C : Cb p s m args meth c RX2 cX2_strategy 2 := C
  have h2 := h; clear h
  refine b_sub (lv' := [(0, .ref (ad 0)), (1, .int a1)]) [0, 1] rfl ?_
  refine b_aload_n C 0 dX2_strategy_0 rfl rfl ?_
  refine b_iload_n C 1 dX2_strategy_1 rfl rfl ?_
  obtain ⟨r5, σ4, ec3, h3⟩ := bd2_inv h2; clear h2
  refine b_callWi (rest := []) C (sameX ad ca) X dX2_strategy_2 (ctX2_isNode ec3) mf_X2_isNode mi_X2_isNode kl_X2_68 0 rfl rfl rfl rfl ⟨rfl, rfl⟩ ⟨Nat.le_of_ble_eq_true rfl, Nat.le_of_ble_eq_true rfl⟩ ⟨Nat.zero_le _, Nat.zero_le _⟩ rfl (Nat.le_of_ble_eq_true rfl) ?_
  refine b_if_eq (tgt := 17) C dX2_strategy_5 (by decide) (fun c6 => ?_) (fun c6 => ?_)
  · have h7 := ipos h3 c6; clear h3
    refine b_sipush (v := (-1001 : Int32)) C dX2_strategy_17 (by decide) ?_
    obtain ⟨rfl, rfl⟩ := so2 h7
    exact b_iret C dX2_strategy_20 hr
  have h8 := ineg h3 c6; clear h3
  refine b_aload_n C 0 dX2_strategy_8 rfl rfl ?_
  refine gX2_34 C X dX2_strategy_9 ?_
  refine b_iload_n C 1 dX2_strategy_12 rfl rfl ?_
  obtain ⟨g10, h9⟩ := gdn h8; clear h8
  refine lX_10 C X g10 dX2_strategy_13 ?_
  refine b_goto (tgt := 20) C dX2_strategy_14 (by decide) ?_
  obtain ⟨rfl, rfl⟩ := so2 h9
  exact b_iret C dX2_strategy_20 hr
def rmX2_insertAscending : Room := { frames := 0, cells := 0, slots := 0, locals := 0 }
def fX2_insertAscending_19b (N : Nat) (q60 : St → Int64 → Int32 → Option St) (q19 : St → Int64 → Int32 → Option St) (σ12 : St) (x10 : Int64) (x11 : Int32) : Option St :=
  if x11 ≤ (0 : Int32) then (
  q60 σ12 x10 x11)
  else (
  if ((x11 - (1 : Int32)) < 0 ∨ 10 ≤ ((x11 - (1 : Int32))).toNatClampNeg) then none else
  if (gG σ12 5 ((x11 - (1 : Int32))).toNatClampNeg) ≤ x10 then (
  q60 σ12 x10 x11)
  else (
  if ((x11 - (1 : Int32)) < 0 ∨ 10 ≤ ((x11 - (1 : Int32))).toNatClampNeg) then none else
  if (x11 < 0 ∨ 10 ≤ (x11).toNatClampNeg) then none else
  lt1 (sG σ12 5 (vp_updL (gG σ12 5) (x11).toNatClampNeg (gG σ12 5 ((x11 - (1 : Int32))).toNatClampNeg))) fun σ26 =>
  lt1 (x11 + (-1 : Int32)) fun x28 =>
  q19 σ26 x10 x28))
def fX2_insertAscending_19 (N : Nat) (q60 : St → Int64 → Int32 → Option St) : Nat → St → Int64 → Int32 → Option St
  | 0, _, _, _ => none
  | n + 1, σ, x10, x11 => fX2_insertAscending_19b N q60 (fX2_insertAscending_19 N q60 n) σ x10 x11
def fX2_insertAscending (N : Nat) (σ : St) (a1 : Int64) (a2 : Int32) : Option St :=
  if a2 < (0 : Int32) then (
  some σ)
  else (
  if a2 < (10 : Int32) then (
  fX2_insertAscending_19 N (fun σ32 x30 x31 =>
 if (x31 < 0 ∨ 10 ≤ (x31).toNatClampNeg) then none else
  lt1 (sG σ32 5 (vp_updL (gG σ32 5) (x31).toNatClampNeg x30)) fun σ36 =>
  some σ36) N σ a1 a2)
  else (
  some σ))
theorem wX2_insertAscending_19 {l : Launch} {p : Program} {e : Env} {s : State} {m : MethodId} {args : Array Value} {below : List Frame} {meth : Method} {c : Code} {D : va_G} {A : Nat → Prop} {ad : Nat → Nat} {ca : Nat → ClassId} {σf : St} (C : Cb p s m args meth c RX2 cX2_insertAscending 5) (X : Cx s D A (wX ad ca) (tyX ca)) (hr : meth.sig.returnType = none) {N : Nat} {q60 : St → Int64 → Int32 → Option St} (hq60 : ∀ (σ : St) (y0 : Int64) (y1 : Int32), q60 σ y0 y1 = some σf → bW p l e rmX2_insertAscending s m args below meth c 0 0 (MQ below (Qw D (wX ad ca) σf none A) args s 0 0 A) 5 (wd D A (wX ad ca) s σ) 60 [(0, .ref (ad 0)), (1, .long y0), (4, .int y1)] []) : ∀ n : Nat, ∀ (σ : St) (y0 : Int64) (y1 : Int32), fX2_insertAscending_19 N q60 n σ y0 y1 = some σf → bW p l e rmX2_insertAscending s m args below meth c 0 0 (MQ below (Qw D (wX ad ca) σf none A) args s 0 0 A) 5 (wd D A (wX ad ca) s σ) 19 [(0, .ref (ad 0)), (1, .long y0), (4, .int y1)] [] := by
  intro n
  induction n with
  | zero => intro σ12 x10 x11 h13; exact nn h13
  | succ n hq19 =>
    intro σ12 x10 x11 h13
    replace h13 : fX2_insertAscending_19b N q60 (fX2_insertAscending_19 N q60 n) σ12 x10 x11 = some σf := h13
    refine b_iload C 2 dX2_insertAscending_19 rfl ?_
    refine b_if_le (tgt := 60) C dX2_insertAscending_21 (by decide) (fun c14 => ?_) (fun c14 => ?_)
    · have h15 := ipos h13 c14; clear h13
      exact b_sub [0, 1, 2] rfl (hq60 _ _ _ h15)
    have h16 := ineg h13 c14; clear h13
    refine b_aload_n C 0 dX2_insertAscending_24 rfl rfl ?_
    refine gX2_41 C X dX2_insertAscending_25 ?_
    refine b_iload C 2 dX2_insertAscending_28 rfl ?_
    refine b_iconst (v := (1 : Int32)) C dX2_insertAscending_30 (by decide) ?_
    refine b_isub C dX2_insertAscending_31 ?_
    obtain ⟨g18, h17⟩ := gdn h16; clear h16
    refine lX_12 C X g18 dX2_insertAscending_32 ?_
    refine b_lload_n C 1 dX2_insertAscending_33 rfl rfl ?_
    refine b_lc_le (tgt := 60) C dX2_insertAscending_34 dX2_insertAscending_35 (by decide) (fun c19 => ?_) (fun c19 => ?_)
    · have h20 := ipos h17 c19; clear h17
      exact b_sub [0, 1, 2] rfl (hq60 _ _ _ h20)
    have h21 := ineg h17 c19; clear h17
    refine b_aload_n C 0 dX2_insertAscending_38 rfl rfl ?_
    refine gX2_41 C X dX2_insertAscending_39 ?_
    refine b_iload C 2 dX2_insertAscending_42 rfl ?_
    refine b_aload_n C 0 dX2_insertAscending_44 rfl rfl ?_
    refine gX2_41 C X dX2_insertAscending_45 ?_
    refine b_iload C 2 dX2_insertAscending_48 rfl ?_
    refine b_iconst (v := (1 : Int32)) C dX2_insertAscending_50 (by decide) ?_
    refine b_isub C dX2_insertAscending_51 ?_
    obtain ⟨g23, h22⟩ := gdn h21; clear h21
    refine lX_12 C X g23 dX2_insertAscending_52 ?_
    obtain ⟨g25, h24⟩ := gdn h22; clear h22
    refine aX_12 C X g25 dX2_insertAscending_53 ?_
    obtain ⟨σ26, eσ26, h27⟩ := lt1_inv h24; clear h24
    refine b_nmS eσ26 ?_
    obtain ⟨x28, ex28, h29⟩ := lt1_inv h27; clear h27
    refine b_iinc (v := x28) (lv' := [(4, .int x28), (0, .ref (ad 0)), (1, .long x10)]) C 2 dX2_insertAscending_54 rfl (by rw [ex28]; rfl) (by decide) rfl ?_
    refine b_goto (tgt := 19) C dX2_insertAscending_57 (by decide) ?_
    exact b_sub [1, 2, 0] rfl (hq19 _ _ _ h29)
theorem ctX2_insertAscending {l : Launch} {ad : Nat → Nat} {ca : Nat → ClassId} {N : Nat} {σ : St} {a1 : Int64} {a2 : Int32} {σf : St} (h : fX2_insertAscending N σ a1 a2 = some σf) : Cw l yX2_insertAscending cX2_insertAscending 5 none rmX2_insertAscending [.ref (ad 0), .long a1, .int a2] (wX ad ca) (tyX ca) σ none σf := by
  refine Cw_of (by decide) (sameX ad ca) (Nat.le_of_ble_eq_true rfl) ?_
  intro p e s m args below meth c D A C X hr
  replace C : Cb p s m args meth c RX2 cX2_insertAscending 5 := C
  have h3 := h; clear h
  refine b_sub (lv' := [(0, .ref (ad 0)), (1, .long a1), (3, .int a2)]) [0, 1, 2] rfl ?_
  refine b_iload_n C 2 dX2_insertAscending_0 rfl rfl ?_
  refine b_istore (lv' := [(4, .int a2), (0, .ref (ad 0)), (1, .long a1), (3, .int a2)]) C dX2_insertAscending_1 (by decide) rfl ?_
  refine b_iload C 0 dX2_insertAscending_3 rfl ?_
  refine b_if_lt (tgt := 18) C dX2_insertAscending_5 (by decide) (fun c4 => ?_) (fun c4 => ?_)
  · have h5 := ipos h3 c4; clear h3
    obtain rfl := so1 h5
    exact b_vret C dX2_insertAscending_18 hr
  have h6 := ineg h3 c4; clear h3
  refine b_iload C 0 dX2_insertAscending_8 rfl ?_
  refine b_aload_n C 1 dX2_insertAscending_10 rfl rfl ?_
  refine gX2_41 C X dX2_insertAscending_11 ?_
  refine nX_12 C X dX2_insertAscending_14 ?_
  refine b_icmp_lt (tgt := 19) C dX2_insertAscending_15 (by decide) (fun c7 => ?_) (fun c7 => ?_)
  · have h8 := ipos h6 c7; clear h6
    refine b_sub [1, 2, 0] rfl (wX2_insertAscending_19 C X hr (fun σ32 x30 x31 h33 => ?_) _ _ _ _ h8)
    refine b_aload_n C 0 dX2_insertAscending_60 rfl rfl ?_
    refine gX2_41 C X dX2_insertAscending_61 ?_
    refine b_iload C 2 dX2_insertAscending_64 rfl ?_
    refine b_lload_n C 1 dX2_insertAscending_66 rfl rfl ?_
    obtain ⟨g35, h34⟩ := gdn h33; clear h33
    refine aX_12 C X g35 dX2_insertAscending_67 ?_
    obtain ⟨σ36, eσ36, h37⟩ := lt1_inv h34; clear h34
    refine b_nmS eσ36 ?_
    obtain rfl := so1 h37
    exact b_vret C dX2_insertAscending_68 hr
  have h9 := ineg h6 c7; clear h6
  obtain rfl := so1 h9
  exact b_vret C dX2_insertAscending_18 hr
def rmX2_sentEnd : Room := { frames := 1, cells := 0, slots := 0, locals := 32 }
def fX2_sentEnd_124 (N : Nat) (σ40 : St) (x39 : Int64) : Option (Int64 × St) :=
  lt1 ((10000 : Int64) * ((gI σ40 2).toInt64)) fun x42 =>
  bd0 (fJ9_min_f86c9 x42 x39) fun r45 =>
  bd0 (fJ9_max_f86c9 (-x42) r45) fun r47 =>
  some (r47, σ40)
def fX2_sentEnd (N : Nat) (σ : St) (a1 : Int32) (a2 : Int32) (a3 : Int32) : Option (Int64 × St) :=
  bd2 (fX2_isNode σ a1) fun r7 σ6 =>
  if r7 = (0 : Int32) then (
  some ((0 : Int64), σ6))
  else (
  if (a1 < 0 ∨ 10 ≤ (a1).toNatClampNeg) then none else
  if (gF σ6 2 (a1).toNatClampNeg) = (1 : Int32) then (
  bd2 (fX0_end σ6 6 a1 a2 a3) fun r18 σ17 =>
  lt1 ((10000 : Int64) * ((gI σ17 2).toInt64)) fun x19 =>
  bd0 (fJ9_min_f86c9 x19 r18) fun r22 =>
  bd0 (fJ9_max_f86c9 (-x19) r22) fun r24 =>
  some (r24, σ17))
  else if (gF σ6 2 (a1).toNatClampNeg) = (2 : Int32) then (
  if (a2 - a2 / (2 : Int32) * (2 : Int32)) = (0 : Int32) then (
  bd2 (fX2_correctSet N σ6) fun r50 σ49 =>
  bd2 (fX0_extremeEnd N σ49 3 (gI σ6 3) r50 (0 : Int32) (0 : Int32)) fun r53 σ52 =>
  if (a1 < 0 ∨ 10 ≤ (a1).toNatClampNeg) then none else
  fX2_sentEnd_124 N σ52 (r53 - (gG σ52 4 (a1).toNatClampNeg)))
  else (
  bd2 (fX2_correctSet N σ6) fun r33 σ32 =>
  bd2 (fX0_extremeEnd N σ32 3 (gI σ6 3) r33 (1 : Int32) (1 : Int32)) fun r36 σ35 =>
  if (a1 < 0 ∨ 10 ≤ (a1).toNatClampNeg) then none else
  fX2_sentEnd_124 N σ35 (r36 + (gG σ35 4 (a1).toNatClampNeg))))
  else if (gF σ6 2 (a1).toNatClampNeg) = (3 : Int32) then (
  bd2 (fX0_end σ6 3 (gI σ6 3) a2 a3) fun r61 σ60 =>
  if (a1 < 0 ∨ 10 ≤ (a1).toNatClampNeg) then none else
  lt1 (r61 + (gG σ60 4 (a1).toNatClampNeg)) fun x64 =>
  lt1 ((10000 : Int64) * ((gI σ60 2).toInt64)) fun x66 =>
  bd0 (fJ9_min_f86c9 x66 x64) fun r69 =>
  bd0 (fJ9_max_f86c9 (-x66) r69) fun r71 =>
  some (r71, σ60))
  else if (gF σ6 2 (a1).toNatClampNeg) = (4 : Int32) then (
  bd2 (fX0_end σ6 3 (gI σ6 3) a2 a3) fun r77 σ76 =>
  lt1 ((10000 : Int64) * ((gI σ76 2).toInt64)) fun x78 =>
  bd0 (fJ9_min_f86c9 x78 r77) fun r81 =>
  bd0 (fJ9_max_f86c9 (-x78) r81) fun r83 =>
  some (r83, σ76))
  else if (gF σ6 2 (a1).toNatClampNeg) = (5 : Int32) then (
  bd2 (fX0_end σ6 3 (0 : Int32) a1 a3) fun r89 σ88 =>
  if (a1 < 0 ∨ 10 ≤ (a1).toNatClampNeg) then none else
  lt1 (r89 + (((gI σ88 3).toInt64) * (gG σ88 4 (a1).toNatClampNeg))) fun x92 =>
  lt1 ((10000 : Int64) * ((gI σ88 2).toInt64)) fun x94 =>
  bd0 (fJ9_min_f86c9 x94 x92) fun r97 =>
  bd0 (fJ9_max_f86c9 (-x94) r97) fun r99 =>
  some (r99, σ88))
  else (
  bd2 (fX2_delayOf σ6 a1 a2) fun r102 σ101 =>
  bd0 (fJ9_max_7cf53 (0 : Int32) ((gI σ6 3) - r102)) fun r104 =>
  bd2 (fX0_end σ101 3 r104 a1 a3) fun r107 σ106 =>
  some (r107, σ106)))
theorem wX2_sentEnd_124 {l : Launch} {p : Program} {e : Env} {s : State} {m : MethodId} {args : Array Value} {below : List Frame} {meth : Method} {c : Code} {D : va_G} {A : Nat → Prop} {ad : Nat → Nat} {ca : Nat → ClassId} {rf : Int64} {σf : St} (C : Cb p s m args meth c RX2 cX2_sentEnd 8) (X : Cx s D A (wX ad ca) (tyX ca)) (hr : meth.sig.returnType = (some .long)) {N : Nat} : ∀ (σ : St) (y0 : Int64), fX2_sentEnd_124 N σ y0 = some (rf, σf) → bW p l e rmX2_sentEnd s m args below meth c 0 0 (MQ below (Qw D (wX ad ca) σf (some (.long rf)) A) args s 0 0 A) 8 (wd D A (wX ad ca) s σ) 124 [(0, .ref (ad 0))] [.long y0] := by
  intro σ40 x39 h41
  refine b_lstore (lv' := [(4, .long x39), (0, .ref (ad 0))]) C dX2_sentEnd_124 (by decide) rfl ?_
  refine b_goto (tgt := 225) C dX2_sentEnd_126 (by decide) ?_
  refine b_ldc2 (v := (10000 : Int64)) C dX2_sentEnd_225 kc_X2_220 ?_
  refine b_aload_n C 1 dX2_sentEnd_228 rfl rfl ?_
  refine gX2_83 C X dX2_sentEnd_229 ?_
  refine b_i2l C dX2_sentEnd_232 ?_
  refine b_lmul C dX2_sentEnd_233 ?_
  obtain ⟨x42, ex42, h43⟩ := lt1_inv h41; clear h41
  refine b_nmJ ex42 ?_
  refine b_lstore (lv' := [(6, .long x42), (4, .long x39), (0, .ref (ad 0))]) C dX2_sentEnd_234 (by decide) rfl ?_
  refine b_lload C 0 dX2_sentEnd_236 rfl ?_
  refine b_lneg C dX2_sentEnd_238 ?_
  refine b_lload C 0 dX2_sentEnd_239 rfl ?_
  refine b_lload C 1 dX2_sentEnd_241 rfl ?_
  obtain ⟨r45, ec44, h44⟩ := bd0_inv h43; clear h43
  refine b_callSl (rest := [.long (-x42)]) C dX2_sentEnd_243 (ctJ9_min_f86c9 ec44) mf_J9_min_f86c9 ms_J9_min_f86c9 kl_X2_222 rfl ⟨rfl, rfl⟩ ⟨Nat.le_of_ble_eq_true rfl, Nat.le_of_ble_eq_true rfl⟩ ⟨Nat.zero_le _, Nat.zero_le _⟩ rfl (Nat.le_of_ble_eq_true rfl) ?_
  obtain ⟨r47, ec46, h46⟩ := bd0_inv h44; clear h44
  refine b_callSl (rest := []) C dX2_sentEnd_246 (ctJ9_max_f86c9 ec46) mf_J9_max_f86c9 ms_J9_max_f86c9 kl_X2_215 rfl ⟨rfl, rfl⟩ ⟨Nat.le_of_ble_eq_true rfl, Nat.le_of_ble_eq_true rfl⟩ ⟨Nat.zero_le _, Nat.zero_le _⟩ rfl (Nat.le_of_ble_eq_true rfl) ?_
  obtain ⟨rfl, rfl⟩ := so2 h46
  exact b_lret C dX2_sentEnd_249 hr
theorem ctX2_sentEnd {l : Launch} {ad : Nat → Nat} {ca : Nat → ClassId} {N : Nat} {σ : St} {a1 : Int32} {a2 : Int32} {a3 : Int32} {rf : Int64} {σf : St} (h : fX2_sentEnd N σ a1 a2 a3 = some (rf, σf)) : Cw l yX2_sentEnd cX2_sentEnd 8 (some .long) rmX2_sentEnd [.ref (ad 0), .int a1, .int a2, .int a3] (wX ad ca) (tyX ca) σ (some (.long rf)) σf := by
  refine Cw_of (by decide) (sameX ad ca) (Nat.le_of_ble_eq_true rfl) ?_
  intro p e s m args below meth c D A C X hr
  replace C : Cb p s m args meth c RX2 cX2_sentEnd 8 := C
  have h4 := h; clear h
  refine b_sub (lv' := [(0, .ref (ad 0)), (1, .int a1), (2, .int a2), (3, .int a3)]) [0, 1, 2, 3] rfl ?_
  refine b_aload_n C 0 dX2_sentEnd_0 rfl rfl ?_
  refine b_iload_n C 1 dX2_sentEnd_1 rfl rfl ?_
  obtain ⟨r7, σ6, ec5, h5⟩ := bd2_inv h4; clear h4
  refine b_callWi (rest := []) C (sameX ad ca) X dX2_sentEnd_2 (ctX2_isNode ec5) mf_X2_isNode mi_X2_isNode kl_X2_68 0 rfl rfl rfl rfl ⟨rfl, rfl⟩ ⟨Nat.le_of_ble_eq_true rfl, Nat.le_of_ble_eq_true rfl⟩ ⟨Nat.zero_le _, Nat.zero_le _⟩ rfl (Nat.le_of_ble_eq_true rfl) ?_
  refine b_if_ne (tgt := 10) C dX2_sentEnd_5 (by decide) (fun c8 => ?_) (fun c8 => ?_)
  · have h9 := ineg h5 c8; clear h5
    refine b_aload_n C 0 dX2_sentEnd_10 rfl rfl ?_
    refine gX2_34 C X dX2_sentEnd_11 ?_
    refine b_iload_n C 1 dX2_sentEnd_14 rfl rfl ?_
    obtain ⟨g12, h11⟩ := gdn h9; clear h9
    refine lX_10 C X g12 dX2_sentEnd_15 ?_
    rcases Classical.em ((gF σ6 2 (a1).toNatClampNeg) = (1 : Int32)) with c13 | c13
    · have h14 := ipos h11 c13; clear h11
      refine b_tswIn (off := 36) (tgt := 52) (kx := (1 : Int32)) C dX2_sentEnd_16 c13 (by decide) (by decide) (by decide) (by decide) ?_
      refine b_aload_n C 0 dX2_sentEnd_52 rfl rfl ?_
      refine gX2_27 C X dX2_sentEnd_53 ?_
      refine b_iload_n C 1 dX2_sentEnd_56 rfl rfl ?_
      refine b_iload_n C 2 dX2_sentEnd_57 rfl rfl ?_
      refine b_iload_n C 3 dX2_sentEnd_58 rfl rfl ?_
      obtain ⟨r18, σ17, ec16, h16⟩ := bd2_inv h14; clear h14
      refine b_callWl (rest := []) C (sameX ad ca) X dX2_sentEnd_59 (ctX0_end ec16) mf_X0_end mi_X0_end kl_X2_130 6 rfl rfl rfl rfl ⟨rfl, rfl⟩ ⟨Nat.le_of_ble_eq_true rfl, Nat.le_of_ble_eq_true rfl⟩ ⟨Nat.zero_le _, Nat.zero_le _⟩ rfl (Nat.le_of_ble_eq_true rfl) ?_
      refine b_lstore (lv' := [(4, .long r18), (0, .ref (ad 0)), (1, .int a1), (2, .int a2), (3, .int a3)]) C dX2_sentEnd_62 (by decide) rfl ?_
      refine b_goto (tgt := 225) C dX2_sentEnd_64 (by decide) ?_
      refine b_ldc2 (v := (10000 : Int64)) C dX2_sentEnd_225 kc_X2_220 ?_
      refine b_aload_n C 1 dX2_sentEnd_228 rfl rfl ?_
      refine gX2_83 C X dX2_sentEnd_229 ?_
      refine b_i2l C dX2_sentEnd_232 ?_
      refine b_lmul C dX2_sentEnd_233 ?_
      obtain ⟨x19, ex19, h20⟩ := lt1_inv h16; clear h16
      refine b_nmJ ex19 ?_
      refine b_lstore (lv' := [(6, .long x19), (4, .long r18), (0, .ref (ad 0)), (1, .int a1), (2, .int a2), (3, .int a3)]) C dX2_sentEnd_234 (by decide) rfl ?_
      refine b_lload C 0 dX2_sentEnd_236 rfl ?_
      refine b_lneg C dX2_sentEnd_238 ?_
      refine b_lload C 0 dX2_sentEnd_239 rfl ?_
      refine b_lload C 1 dX2_sentEnd_241 rfl ?_
      obtain ⟨r22, ec21, h21⟩ := bd0_inv h20; clear h20
      refine b_callSl (rest := [.long (-x19)]) C dX2_sentEnd_243 (ctJ9_min_f86c9 ec21) mf_J9_min_f86c9 ms_J9_min_f86c9 kl_X2_222 rfl ⟨rfl, rfl⟩ ⟨Nat.le_of_ble_eq_true rfl, Nat.le_of_ble_eq_true rfl⟩ ⟨Nat.zero_le _, Nat.zero_le _⟩ rfl (Nat.le_of_ble_eq_true rfl) ?_
      obtain ⟨r24, ec23, h23⟩ := bd0_inv h21; clear h21
      refine b_callSl (rest := []) C dX2_sentEnd_246 (ctJ9_max_f86c9 ec23) mf_J9_max_f86c9 ms_J9_max_f86c9 kl_X2_215 rfl ⟨rfl, rfl⟩ ⟨Nat.le_of_ble_eq_true rfl, Nat.le_of_ble_eq_true rfl⟩ ⟨Nat.zero_le _, Nat.zero_le _⟩ rfl (Nat.le_of_ble_eq_true rfl) ?_
      obtain ⟨rfl, rfl⟩ := so2 h23
      exact b_lret C dX2_sentEnd_249 hr
    have h15 := ineg h11 c13; clear h11
    rcases Classical.em ((gF σ6 2 (a1).toNatClampNeg) = (2 : Int32)) with c25 | c25
    · have h26 := ipos h15 c25; clear h15
      refine b_tswIn (off := 51) (tgt := 67) (kx := (2 : Int32)) C dX2_sentEnd_16 c25 (by decide) (by decide) (by decide) (by decide) ?_
      refine b_iload_n C 2 dX2_sentEnd_67 rfl rfl ?_
      refine b_iconst (v := (2 : Int32)) C dX2_sentEnd_68 (by decide) ?_
      refine b_irem C dX2_sentEnd_69 (by decide) ?_
      refine b_if_ne (tgt := 100) C dX2_sentEnd_70 (by decide) (fun c28 => ?_) (fun c28 => ?_)
      · have h29 := ineg h26 c28; clear h26
        refine b_aload_n C 0 dX2_sentEnd_100 rfl rfl ?_
        refine gX2_23 C X dX2_sentEnd_101 ?_
        refine b_aload_n C 0 dX2_sentEnd_104 rfl rfl ?_
        refine gX2_72 C X dX2_sentEnd_105 ?_
        refine b_aload_n C 0 dX2_sentEnd_108 rfl rfl ?_
        obtain ⟨r33, σ32, ec31, h31⟩ := bd2_inv h29; clear h29
        refine b_callWi (rest := [.int (gI σ6 3), .ref (ad 3)]) C (sameX ad ca) X dX2_sentEnd_109 (ctX2_correctSet ec31) mf_X2_correctSet mi_X2_correctSet kl_X2_149 0 rfl rfl rfl rfl ⟨rfl, rfl⟩ ⟨Nat.le_of_ble_eq_true rfl, Nat.le_of_ble_eq_true rfl⟩ ⟨Nat.zero_le _, Nat.zero_le _⟩ rfl (Nat.le_of_ble_eq_true rfl) ?_
        refine b_iconst (v := (1 : Int32)) C dX2_sentEnd_112 (by decide) ?_
        refine b_iconst (v := (1 : Int32)) C dX2_sentEnd_113 (by decide) ?_
        obtain ⟨r36, σ35, ec34, h34⟩ := bd2_inv h31; clear h31
        refine b_callWl (rest := []) C (sameX ad ca) X dX2_sentEnd_114 (ctX0_extremeEnd ec34) mf_X0_extremeEnd mi_X0_extremeEnd kl_X2_168 3 rfl rfl rfl rfl ⟨rfl, rfl⟩ ⟨Nat.le_of_ble_eq_true rfl, Nat.le_of_ble_eq_true rfl⟩ ⟨Nat.zero_le _, Nat.zero_le _⟩ rfl (Nat.le_of_ble_eq_true rfl) ?_
        refine b_aload_n C 0 dX2_sentEnd_117 rfl rfl ?_
        refine gX2_37 C X dX2_sentEnd_118 ?_
        refine b_iload_n C 1 dX2_sentEnd_121 rfl rfl ?_
        obtain ⟨g38, h37⟩ := gdn h34; clear h34
        refine lX_11 C X g38 dX2_sentEnd_122 ?_
        refine b_ladd C dX2_sentEnd_123 ?_
        exact b_sub [0] rfl (wX2_sentEnd_124 C X hr _ _ h37)
      have h30 := ipos h26 c28; clear h26
      refine b_aload_n C 0 dX2_sentEnd_73 rfl rfl ?_
      refine gX2_23 C X dX2_sentEnd_74 ?_
      refine b_aload_n C 0 dX2_sentEnd_77 rfl rfl ?_
      refine gX2_72 C X dX2_sentEnd_78 ?_
      refine b_aload_n C 0 dX2_sentEnd_81 rfl rfl ?_
      obtain ⟨r50, σ49, ec48, h48⟩ := bd2_inv h30; clear h30
      refine b_callWi (rest := [.int (gI σ6 3), .ref (ad 3)]) C (sameX ad ca) X dX2_sentEnd_82 (ctX2_correctSet ec48) mf_X2_correctSet mi_X2_correctSet kl_X2_149 0 rfl rfl rfl rfl ⟨rfl, rfl⟩ ⟨Nat.le_of_ble_eq_true rfl, Nat.le_of_ble_eq_true rfl⟩ ⟨Nat.zero_le _, Nat.zero_le _⟩ rfl (Nat.le_of_ble_eq_true rfl) ?_
      refine b_iconst (v := (0 : Int32)) C dX2_sentEnd_85 (by decide) ?_
      refine b_iconst (v := (0 : Int32)) C dX2_sentEnd_86 (by decide) ?_
      obtain ⟨r53, σ52, ec51, h51⟩ := bd2_inv h48; clear h48
      refine b_callWl (rest := []) C (sameX ad ca) X dX2_sentEnd_87 (ctX0_extremeEnd ec51) mf_X0_extremeEnd mi_X0_extremeEnd kl_X2_168 3 rfl rfl rfl rfl ⟨rfl, rfl⟩ ⟨Nat.le_of_ble_eq_true rfl, Nat.le_of_ble_eq_true rfl⟩ ⟨Nat.zero_le _, Nat.zero_le _⟩ rfl (Nat.le_of_ble_eq_true rfl) ?_
      refine b_aload_n C 0 dX2_sentEnd_90 rfl rfl ?_
      refine gX2_37 C X dX2_sentEnd_91 ?_
      refine b_iload_n C 1 dX2_sentEnd_94 rfl rfl ?_
      obtain ⟨g55, h54⟩ := gdn h51; clear h51
      refine lX_11 C X g55 dX2_sentEnd_95 ?_
      refine b_lsub C dX2_sentEnd_96 ?_
      refine b_goto (tgt := 124) C dX2_sentEnd_97 (by decide) ?_
      exact b_sub [0] rfl (wX2_sentEnd_124 C X hr _ _ h54)
    have h27 := ineg h15 c25; clear h15
    rcases Classical.em ((gF σ6 2 (a1).toNatClampNeg) = (3 : Int32)) with c56 | c56
    · have h57 := ipos h27 c56; clear h27
      refine b_tswIn (off := 113) (tgt := 129) (kx := (3 : Int32)) C dX2_sentEnd_16 c56 (by decide) (by decide) (by decide) (by decide) ?_
      refine b_aload_n C 0 dX2_sentEnd_129 rfl rfl ?_
      refine gX2_23 C X dX2_sentEnd_130 ?_
      refine b_aload_n C 0 dX2_sentEnd_133 rfl rfl ?_
      refine gX2_72 C X dX2_sentEnd_134 ?_
      refine b_iload_n C 2 dX2_sentEnd_137 rfl rfl ?_
      refine b_iload_n C 3 dX2_sentEnd_138 rfl rfl ?_
      obtain ⟨r61, σ60, ec59, h59⟩ := bd2_inv h57; clear h57
      refine b_callWl (rest := []) C (sameX ad ca) X dX2_sentEnd_139 (ctX0_end ec59) mf_X0_end mi_X0_end kl_X2_130 3 rfl rfl rfl rfl ⟨rfl, rfl⟩ ⟨Nat.le_of_ble_eq_true rfl, Nat.le_of_ble_eq_true rfl⟩ ⟨Nat.zero_le _, Nat.zero_le _⟩ rfl (Nat.le_of_ble_eq_true rfl) ?_
      refine b_aload_n C 0 dX2_sentEnd_142 rfl rfl ?_
      refine gX2_37 C X dX2_sentEnd_143 ?_
      refine b_iload_n C 1 dX2_sentEnd_146 rfl rfl ?_
      obtain ⟨g63, h62⟩ := gdn h59; clear h59
      refine lX_11 C X g63 dX2_sentEnd_147 ?_
      refine b_ladd C dX2_sentEnd_148 ?_
      obtain ⟨x64, ex64, h65⟩ := lt1_inv h62; clear h62
      refine b_nmJ ex64 ?_
      refine b_lstore (lv' := [(4, .long x64), (0, .ref (ad 0)), (1, .int a1), (2, .int a2), (3, .int a3)]) C dX2_sentEnd_149 (by decide) rfl ?_
      refine b_goto (tgt := 225) C dX2_sentEnd_151 (by decide) ?_
      refine b_ldc2 (v := (10000 : Int64)) C dX2_sentEnd_225 kc_X2_220 ?_
      refine b_aload_n C 1 dX2_sentEnd_228 rfl rfl ?_
      refine gX2_83 C X dX2_sentEnd_229 ?_
      refine b_i2l C dX2_sentEnd_232 ?_
      refine b_lmul C dX2_sentEnd_233 ?_
      obtain ⟨x66, ex66, h67⟩ := lt1_inv h65; clear h65
      refine b_nmJ ex66 ?_
      refine b_lstore (lv' := [(6, .long x66), (4, .long x64), (0, .ref (ad 0)), (1, .int a1), (2, .int a2), (3, .int a3)]) C dX2_sentEnd_234 (by decide) rfl ?_
      refine b_lload C 0 dX2_sentEnd_236 rfl ?_
      refine b_lneg C dX2_sentEnd_238 ?_
      refine b_lload C 0 dX2_sentEnd_239 rfl ?_
      refine b_lload C 1 dX2_sentEnd_241 rfl ?_
      obtain ⟨r69, ec68, h68⟩ := bd0_inv h67; clear h67
      refine b_callSl (rest := [.long (-x66)]) C dX2_sentEnd_243 (ctJ9_min_f86c9 ec68) mf_J9_min_f86c9 ms_J9_min_f86c9 kl_X2_222 rfl ⟨rfl, rfl⟩ ⟨Nat.le_of_ble_eq_true rfl, Nat.le_of_ble_eq_true rfl⟩ ⟨Nat.zero_le _, Nat.zero_le _⟩ rfl (Nat.le_of_ble_eq_true rfl) ?_
      obtain ⟨r71, ec70, h70⟩ := bd0_inv h68; clear h68
      refine b_callSl (rest := []) C dX2_sentEnd_246 (ctJ9_max_f86c9 ec70) mf_J9_max_f86c9 ms_J9_max_f86c9 kl_X2_215 rfl ⟨rfl, rfl⟩ ⟨Nat.le_of_ble_eq_true rfl, Nat.le_of_ble_eq_true rfl⟩ ⟨Nat.zero_le _, Nat.zero_le _⟩ rfl (Nat.le_of_ble_eq_true rfl) ?_
      obtain ⟨rfl, rfl⟩ := so2 h70
      exact b_lret C dX2_sentEnd_249 hr
    have h58 := ineg h27 c56; clear h27
    rcases Classical.em ((gF σ6 2 (a1).toNatClampNeg) = (4 : Int32)) with c72 | c72
    · have h73 := ipos h58 c72; clear h58
      refine b_tswIn (off := 138) (tgt := 154) (kx := (4 : Int32)) C dX2_sentEnd_16 c72 (by decide) (by decide) (by decide) (by decide) ?_
      refine b_aload_n C 0 dX2_sentEnd_154 rfl rfl ?_
      refine gX2_23 C X dX2_sentEnd_155 ?_
      refine b_aload_n C 0 dX2_sentEnd_158 rfl rfl ?_
      refine gX2_72 C X dX2_sentEnd_159 ?_
      refine b_iload_n C 2 dX2_sentEnd_162 rfl rfl ?_
      refine b_iload_n C 3 dX2_sentEnd_163 rfl rfl ?_
      obtain ⟨r77, σ76, ec75, h75⟩ := bd2_inv h73; clear h73
      refine b_callWl (rest := []) C (sameX ad ca) X dX2_sentEnd_164 (ctX0_end ec75) mf_X0_end mi_X0_end kl_X2_130 3 rfl rfl rfl rfl ⟨rfl, rfl⟩ ⟨Nat.le_of_ble_eq_true rfl, Nat.le_of_ble_eq_true rfl⟩ ⟨Nat.zero_le _, Nat.zero_le _⟩ rfl (Nat.le_of_ble_eq_true rfl) ?_
      refine b_lstore (lv' := [(4, .long r77), (0, .ref (ad 0)), (1, .int a1), (2, .int a2), (3, .int a3)]) C dX2_sentEnd_167 (by decide) rfl ?_
      refine b_goto (tgt := 225) C dX2_sentEnd_169 (by decide) ?_
      refine b_ldc2 (v := (10000 : Int64)) C dX2_sentEnd_225 kc_X2_220 ?_
      refine b_aload_n C 1 dX2_sentEnd_228 rfl rfl ?_
      refine gX2_83 C X dX2_sentEnd_229 ?_
      refine b_i2l C dX2_sentEnd_232 ?_
      refine b_lmul C dX2_sentEnd_233 ?_
      obtain ⟨x78, ex78, h79⟩ := lt1_inv h75; clear h75
      refine b_nmJ ex78 ?_
      refine b_lstore (lv' := [(6, .long x78), (4, .long r77), (0, .ref (ad 0)), (1, .int a1), (2, .int a2), (3, .int a3)]) C dX2_sentEnd_234 (by decide) rfl ?_
      refine b_lload C 0 dX2_sentEnd_236 rfl ?_
      refine b_lneg C dX2_sentEnd_238 ?_
      refine b_lload C 0 dX2_sentEnd_239 rfl ?_
      refine b_lload C 1 dX2_sentEnd_241 rfl ?_
      obtain ⟨r81, ec80, h80⟩ := bd0_inv h79; clear h79
      refine b_callSl (rest := [.long (-x78)]) C dX2_sentEnd_243 (ctJ9_min_f86c9 ec80) mf_J9_min_f86c9 ms_J9_min_f86c9 kl_X2_222 rfl ⟨rfl, rfl⟩ ⟨Nat.le_of_ble_eq_true rfl, Nat.le_of_ble_eq_true rfl⟩ ⟨Nat.zero_le _, Nat.zero_le _⟩ rfl (Nat.le_of_ble_eq_true rfl) ?_
      obtain ⟨r83, ec82, h82⟩ := bd0_inv h80; clear h80
      refine b_callSl (rest := []) C dX2_sentEnd_246 (ctJ9_max_f86c9 ec82) mf_J9_max_f86c9 ms_J9_max_f86c9 kl_X2_215 rfl ⟨rfl, rfl⟩ ⟨Nat.le_of_ble_eq_true rfl, Nat.le_of_ble_eq_true rfl⟩ ⟨Nat.zero_le _, Nat.zero_le _⟩ rfl (Nat.le_of_ble_eq_true rfl) ?_
      obtain ⟨rfl, rfl⟩ := so2 h82
      exact b_lret C dX2_sentEnd_249 hr
    have h74 := ineg h58 c72; clear h58
    rcases Classical.em ((gF σ6 2 (a1).toNatClampNeg) = (5 : Int32)) with c84 | c84
    · have h85 := ipos h74 c84; clear h74
      refine b_tswIn (off := 156) (tgt := 172) (kx := (5 : Int32)) C dX2_sentEnd_16 c84 (by decide) (by decide) (by decide) (by decide) ?_
      refine b_aload_n C 0 dX2_sentEnd_172 rfl rfl ?_
      refine gX2_23 C X dX2_sentEnd_173 ?_
      refine b_iconst (v := (0 : Int32)) C dX2_sentEnd_176 (by decide) ?_
      refine b_iload_n C 1 dX2_sentEnd_177 rfl rfl ?_
      refine b_iload_n C 3 dX2_sentEnd_178 rfl rfl ?_
      obtain ⟨r89, σ88, ec87, h87⟩ := bd2_inv h85; clear h85
      refine b_callWl (rest := []) C (sameX ad ca) X dX2_sentEnd_179 (ctX0_end ec87) mf_X0_end mi_X0_end kl_X2_130 3 rfl rfl rfl rfl ⟨rfl, rfl⟩ ⟨Nat.le_of_ble_eq_true rfl, Nat.le_of_ble_eq_true rfl⟩ ⟨Nat.zero_le _, Nat.zero_le _⟩ rfl (Nat.le_of_ble_eq_true rfl) ?_
      refine b_aload_n C 0 dX2_sentEnd_182 rfl rfl ?_
      refine gX2_72 C X dX2_sentEnd_183 ?_
      refine b_i2l C dX2_sentEnd_186 ?_
      refine b_aload_n C 0 dX2_sentEnd_187 rfl rfl ?_
      refine gX2_37 C X dX2_sentEnd_188 ?_
      refine b_iload_n C 1 dX2_sentEnd_191 rfl rfl ?_
      obtain ⟨g91, h90⟩ := gdn h87; clear h87
      refine lX_11 C X g91 dX2_sentEnd_192 ?_
      refine b_lmul C dX2_sentEnd_193 ?_
      refine b_ladd C dX2_sentEnd_194 ?_
      obtain ⟨x92, ex92, h93⟩ := lt1_inv h90; clear h90
      refine b_nmJ ex92 ?_
      refine b_lstore (lv' := [(4, .long x92), (0, .ref (ad 0)), (1, .int a1), (2, .int a2), (3, .int a3)]) C dX2_sentEnd_195 (by decide) rfl ?_
      refine b_goto (tgt := 225) C dX2_sentEnd_197 (by decide) ?_
      refine b_ldc2 (v := (10000 : Int64)) C dX2_sentEnd_225 kc_X2_220 ?_
      refine b_aload_n C 1 dX2_sentEnd_228 rfl rfl ?_
      refine gX2_83 C X dX2_sentEnd_229 ?_
      refine b_i2l C dX2_sentEnd_232 ?_
      refine b_lmul C dX2_sentEnd_233 ?_
      obtain ⟨x94, ex94, h95⟩ := lt1_inv h93; clear h93
      refine b_nmJ ex94 ?_
      refine b_lstore (lv' := [(6, .long x94), (4, .long x92), (0, .ref (ad 0)), (1, .int a1), (2, .int a2), (3, .int a3)]) C dX2_sentEnd_234 (by decide) rfl ?_
      refine b_lload C 0 dX2_sentEnd_236 rfl ?_
      refine b_lneg C dX2_sentEnd_238 ?_
      refine b_lload C 0 dX2_sentEnd_239 rfl ?_
      refine b_lload C 1 dX2_sentEnd_241 rfl ?_
      obtain ⟨r97, ec96, h96⟩ := bd0_inv h95; clear h95
      refine b_callSl (rest := [.long (-x94)]) C dX2_sentEnd_243 (ctJ9_min_f86c9 ec96) mf_J9_min_f86c9 ms_J9_min_f86c9 kl_X2_222 rfl ⟨rfl, rfl⟩ ⟨Nat.le_of_ble_eq_true rfl, Nat.le_of_ble_eq_true rfl⟩ ⟨Nat.zero_le _, Nat.zero_le _⟩ rfl (Nat.le_of_ble_eq_true rfl) ?_
      obtain ⟨r99, ec98, h98⟩ := bd0_inv h96; clear h96
      refine b_callSl (rest := []) C dX2_sentEnd_246 (ctJ9_max_f86c9 ec98) mf_J9_max_f86c9 ms_J9_max_f86c9 kl_X2_215 rfl ⟨rfl, rfl⟩ ⟨Nat.le_of_ble_eq_true rfl, Nat.le_of_ble_eq_true rfl⟩ ⟨Nat.zero_le _, Nat.zero_le _⟩ rfl (Nat.le_of_ble_eq_true rfl) ?_
      obtain ⟨rfl, rfl⟩ := so2 h98
      exact b_lret C dX2_sentEnd_249 hr
    have h86 := ineg h74 c84; clear h74
    refine b_tswOut (tgt := 200) C dX2_sentEnd_16 (by have q0 := i32_ne c13 (z := 1) (by decide); have q1 := i32_ne c25 (z := 2) (by decide); have q2 := i32_ne c56 (z := 3) (by decide); have q3 := i32_ne c72 (z := 4) (by decide); have q4 := i32_ne c84 (z := 5) (by decide); omega) (by decide) ?_
    refine b_aload_n C 0 dX2_sentEnd_200 rfl rfl ?_
    refine gX2_23 C X dX2_sentEnd_201 ?_
    refine b_iconst (v := (0 : Int32)) C dX2_sentEnd_204 (by decide) ?_
    refine b_aload_n C 0 dX2_sentEnd_205 rfl rfl ?_
    refine gX2_72 C X dX2_sentEnd_206 ?_
    refine b_aload_n C 0 dX2_sentEnd_209 rfl rfl ?_
    refine b_iload_n C 1 dX2_sentEnd_210 rfl rfl ?_
    refine b_iload_n C 2 dX2_sentEnd_211 rfl rfl ?_
    obtain ⟨r102, σ101, ec100, h100⟩ := bd2_inv h86; clear h86
    refine b_callWi (rest := [.int (gI σ6 3), .int (0 : Int32), .ref (ad 3)]) C (sameX ad ca) X dX2_sentEnd_212 (ctX2_delayOf ec100) mf_X2_delayOf mi_X2_delayOf kl_X2_94 0 rfl rfl rfl rfl ⟨rfl, rfl⟩ ⟨Nat.le_of_ble_eq_true rfl, Nat.le_of_ble_eq_true rfl⟩ ⟨Nat.zero_le _, Nat.zero_le _⟩ rfl (Nat.le_of_ble_eq_true rfl) ?_
    refine b_isub C dX2_sentEnd_215 ?_
    obtain ⟨r104, ec103, h103⟩ := bd0_inv h100; clear h100
    refine b_callSi (rest := [.ref (ad 3)]) C dX2_sentEnd_216 (ctJ9_max_7cf53 ec103) mf_J9_max_7cf53 ms_J9_max_7cf53 kl_X2_218 rfl ⟨rfl, rfl⟩ ⟨Nat.le_of_ble_eq_true rfl, Nat.le_of_ble_eq_true rfl⟩ ⟨Nat.zero_le _, Nat.zero_le _⟩ rfl (Nat.le_of_ble_eq_true rfl) ?_
    refine b_iload_n C 1 dX2_sentEnd_219 rfl rfl ?_
    refine b_iload_n C 3 dX2_sentEnd_220 rfl rfl ?_
    obtain ⟨r107, σ106, ec105, h105⟩ := bd2_inv h103; clear h103
    refine b_callWl (rest := []) C (sameX ad ca) X dX2_sentEnd_221 (ctX0_end ec105) mf_X0_end mi_X0_end kl_X2_130 3 rfl rfl rfl rfl ⟨rfl, rfl⟩ ⟨Nat.le_of_ble_eq_true rfl, Nat.le_of_ble_eq_true rfl⟩ ⟨Nat.zero_le _, Nat.zero_le _⟩ rfl (Nat.le_of_ble_eq_true rfl) ?_
    obtain ⟨rfl, rfl⟩ := so2 h105
    exact b_lret C dX2_sentEnd_224 hr
  have h10 := ipos h5 c8; clear h5
  refine b_lconst (v := (0 : Int64)) C dX2_sentEnd_8 (by decide) ?_
  obtain ⟨rfl, rfl⟩ := so2 h10
  exact b_lret C dX2_sentEnd_9 hr
