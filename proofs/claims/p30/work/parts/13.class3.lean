def rmX2_value : Room := { frames := 3, cells := 0, slots := 0, locals := 79 }
def fX2_value (N : Nat) (σ : St) (a1 : Int32) (a2 : Int32) (a3 : Int32) (a4 : Int32) : Option (Int64 × St) :=
  bd2 (fX2_isCorrect σ a1) fun r8 σ7 =>
  if r8 = (0 : Int32) then (
  some ((-9223372036854775808 : Int64), σ7))
  else (
  bd0 (fX2_isWithin a2 (0 : Int32) (gI σ7 3)) fun r13 =>
  if r13 = (0 : Int32) then (
  some ((-9223372036854775808 : Int64), σ7))
  else (
  bd2 (fX0_end σ7 3 a2 a1 a3) fun r19 σ18 =>
  bd2 (fX2_asFraction N σ18 r19 a4) fun r22 σ21 =>
  some (r22, σ21)))
theorem ctX2_value {l : Launch} {ad : Nat → Nat} {ca : Nat → ClassId} {N : Nat} {σ : St} {a1 : Int32} {a2 : Int32} {a3 : Int32} {a4 : Int32} {rf : Int64} {σf : St} (h : fX2_value N σ a1 a2 a3 a4 = some (rf, σf)) : Cw l yX2_value cX2_value 5 (some .long) rmX2_value [.ref (ad 0), .int a1, .int a2, .int a3, .int a4] (wX ad ca) (tyX ca) σ (some (.long rf)) σf := by
  refine Cw_of (by decide) (sameX ad ca) (Nat.le_of_ble_eq_true rfl) ?_
  intro p e s m args below meth c D A C X hr
  replace C : Cb p s m args meth c RX2 cX2_value 5 := C
  have h5 := h; clear h
  refine b_sub (lv' := [(0, .ref (ad 0)), (1, .int a1), (2, .int a2), (3, .int a3), (4, .int a4)]) [0, 1, 2, 3, 4] rfl ?_
  refine b_aload_n C 0 dX2_value_0 rfl rfl ?_
  refine b_iload_n C 1 dX2_value_1 rfl rfl ?_
  obtain ⟨r8, σ7, ec6, h6⟩ := bd2_inv h5; clear h5
  refine b_callWi (rest := []) C (sameX ad ca) X dX2_value_2 (ctX2_isCorrect ec6) mf_X2_isCorrect mi_X2_isCorrect kl_X2_125 0 rfl rfl rfl rfl ⟨rfl, rfl⟩ ⟨Nat.le_of_ble_eq_true rfl, Nat.le_of_ble_eq_true rfl⟩ ⟨Nat.zero_le _, Nat.zero_le _⟩ rfl (Nat.le_of_ble_eq_true rfl) ?_
  refine b_if_eq (tgt := 20) C dX2_value_5 (by decide) (fun c9 => ?_) (fun c9 => ?_)
  · have h10 := ipos h6 c9; clear h6
    refine b_ldc2 (v := (-9223372036854775808 : Int64)) C dX2_value_20 kc_X2_128 ?_
    obtain ⟨rfl, rfl⟩ := so2 h10
    exact b_lret C dX2_value_23 hr
  have h11 := ineg h6 c9; clear h6
  refine b_iload_n C 2 dX2_value_8 rfl rfl ?_
  refine b_iconst (v := (0 : Int32)) C dX2_value_9 (by decide) ?_
  refine b_aload_n C 0 dX2_value_10 rfl rfl ?_
  refine gX2_72 C X dX2_value_11 ?_
  obtain ⟨r13, ec12, h12⟩ := bd0_inv h11; clear h11
  refine b_callSi (rest := []) C dX2_value_14 (ctX2_isWithin ec12) mf_X2_isWithin ms_X2_isWithin kl_X2_49 rfl ⟨rfl, rfl⟩ ⟨Nat.le_of_ble_eq_true rfl, Nat.le_of_ble_eq_true rfl⟩ ⟨Nat.zero_le _, Nat.zero_le _⟩ rfl (Nat.le_of_ble_eq_true rfl) ?_
  refine b_if_ne (tgt := 24) C dX2_value_17 (by decide) (fun c14 => ?_) (fun c14 => ?_)
  · have h15 := ineg h12 c14; clear h12
    refine b_aload_n C 0 dX2_value_24 rfl rfl ?_
    refine b_aload_n C 0 dX2_value_25 rfl rfl ?_
    refine gX2_23 C X dX2_value_26 ?_
    refine b_iload_n C 2 dX2_value_29 rfl rfl ?_
    refine b_iload_n C 1 dX2_value_30 rfl rfl ?_
    refine b_iload_n C 3 dX2_value_31 rfl rfl ?_
    obtain ⟨r19, σ18, ec17, h17⟩ := bd2_inv h15; clear h15
    refine b_callWl (rest := [.ref (ad 0)]) C (sameX ad ca) X dX2_value_32 (ctX0_end ec17) mf_X0_end mi_X0_end kl_X2_130 3 rfl rfl rfl rfl ⟨rfl, rfl⟩ ⟨Nat.le_of_ble_eq_true rfl, Nat.le_of_ble_eq_true rfl⟩ ⟨Nat.zero_le _, Nat.zero_le _⟩ rfl (Nat.le_of_ble_eq_true rfl) ?_
    refine b_iload C 4 dX2_value_35 rfl ?_
    obtain ⟨r22, σ21, ec20, h20⟩ := bd2_inv h17; clear h17
    refine b_callWl (rest := []) C (sameX ad ca) X dX2_value_37 (ctX2_asFraction ec20) mf_X2_asFraction mi_X2_asFraction kl_X2_134 0 rfl rfl rfl rfl ⟨rfl, rfl⟩ ⟨Nat.le_of_ble_eq_true rfl, Nat.le_of_ble_eq_true rfl⟩ ⟨Nat.zero_le _, Nat.zero_le _⟩ rfl (Nat.le_of_ble_eq_true rfl) ?_
    obtain ⟨rfl, rfl⟩ := so2 h20
    exact b_lret C dX2_value_40 hr
  have h16 := ipos h12 c14; clear h12
  refine b_ldc2 (v := (-9223372036854775808 : Int64)) C dX2_value_20 kc_X2_128 ?_
  obtain ⟨rfl, rfl⟩ := so2 h16
  exact b_lret C dX2_value_23 hr
def rmX2_back : Room := { frames := 1, cells := 0, slots := 0, locals := 22 }
def fX2_back (σ : St) (a1 : Int32) : Option (Int32 × St) :=
  bd0 (fX2_isWithin a1 (0 : Int32) (gI σ 3)) fun r4 =>
  if r4 = (0 : Int32) then (
  some ((-1002 : Int32), σ))
  else (
  lt1 (sI σ 3 ((gI σ 3) - a1)) fun σ8 =>
  some ((gI σ8 3), σ8))
theorem ctX2_back {l : Launch} {ad : Nat → Nat} {ca : Nat → ClassId} {σ : St} {a1 : Int32} {rf : Int32} {σf : St} (h : fX2_back σ a1 = some (rf, σf)) : Cw l yX2_back cX2_back 2 (some .int) rmX2_back [.ref (ad 0), .int a1] (wX ad ca) (tyX ca) σ (some (.int rf)) σf := by
  refine Cw_of (by decide) (sameX ad ca) (Nat.le_of_ble_eq_true rfl) ?_
  intro p e s m args below meth c D A C X hr
  replace C : Cb p s m args meth c RX2 cX2_back 2 := C
  have h2 := h; clear h
  refine b_sub (lv' := [(0, .ref (ad 0)), (1, .int a1)]) [0, 1] rfl ?_
  refine b_iload_n C 1 dX2_back_0 rfl rfl ?_
  refine b_iconst (v := (0 : Int32)) C dX2_back_1 (by decide) ?_
  refine b_aload_n C 0 dX2_back_2 rfl rfl ?_
  refine gX2_72 C X dX2_back_3 ?_
  obtain ⟨r4, ec3, h3⟩ := bd0_inv h2; clear h2
  refine b_callSi (rest := []) C dX2_back_6 (ctX2_isWithin ec3) mf_X2_isWithin ms_X2_isWithin kl_X2_49 rfl ⟨rfl, rfl⟩ ⟨Nat.le_of_ble_eq_true rfl, Nat.le_of_ble_eq_true rfl⟩ ⟨Nat.zero_le _, Nat.zero_le _⟩ rfl (Nat.le_of_ble_eq_true rfl) ?_
  refine b_if_ne (tgt := 16) C dX2_back_9 (by decide) (fun c5 => ?_) (fun c5 => ?_)
  · have h6 := ineg h3 c5; clear h3
    refine b_aload_n C 0 dX2_back_16 rfl rfl ?_
    refine b_dup C dX2_back_17 rfl ?_
    refine gX2_72 C X dX2_back_18 ?_
    refine b_iload_n C 1 dX2_back_21 rfl rfl ?_
    refine b_isub C dX2_back_22 ?_
    refine pX2_72 C X dX2_back_23 ?_
    obtain ⟨σ8, eσ8, h9⟩ := lt1_inv h6; clear h6
    refine b_nmS eσ8 ?_
    refine b_aload_n C 0 dX2_back_26 rfl rfl ?_
    refine gX2_72 C X dX2_back_27 ?_
    obtain ⟨rfl, rfl⟩ := so2 h9
    exact b_iret C dX2_back_30 hr
  have h7 := ipos h3 c5; clear h3
  refine b_sipush (v := (-1002 : Int32)) C dX2_back_12 (by decide) ?_
  obtain ⟨rfl, rfl⟩ := so2 h7
  exact b_iret C dX2_back_15 hr
def rmX0_put : Room := { frames := 0, cells := 0, slots := 0, locals := 0 }
def fX0_put (σ : St) (b : Nat) (a1 : Int32) (a2 : Int32) (a3 : Int64) (a4 : Int64) : Option St :=
  if isT b = false then none else
  lt1 ((a1 * (10 : Int32)) + a2) fun x7 =>
  if x7 < (0 : Int32) then (
  some σ)
  else (
  if isL (b + 1) = false then none else
  if (Int32.ofNat (ln (b + 1))) ≤ x7 then (
  some σ)
  else (
  if isL (b + 2) = false then none else
  if x7 < (Int32.ofNat (ln (b + 2))) then (
  if (x7 < 0 ∨ ln (b + 1) ≤ (x7).toNatClampNeg) then none else
  lt1 (sG σ (la (b + 1)) (vp_updL (gG σ (la (b + 1))) (x7).toNatClampNeg a3)) fun σ24 =>
  if (x7 < 0 ∨ ln (b + 2) ≤ (x7).toNatClampNeg) then none else
  lt1 (sG σ24 (la (b + 2)) (vp_updL (gG σ24 (la (b + 2))) (x7).toNatClampNeg a4)) fun σ28 =>
  some σ28)
  else (
  some σ)))
theorem ctX0_put {l : Launch} {ad : Nat → Nat} {ca : Nat → ClassId} {σ : St} {b : Nat} {a1 : Int32} {a2 : Int32} {a3 : Int64} {a4 : Int64} {σf : St} (h : fX0_put σ b a1 a2 a3 a4 = some σf) : Cw l yX0_put cX0_put 8 none rmX0_put [.ref (ad b), .int a1, .int a2, .long a3, .long a4] (wX ad ca) (tyX ca) σ none σf := by
  obtain ⟨hb0, h6⟩ := gdn h; clear h
  have hb : isT b = true := nb hb0
  refine Cw_of (by decide) (sameX ad ca) (Nat.le_of_ble_eq_true rfl) ?_
  intro p e s m args below meth c D A C X hr
  replace C : Cb p s m args meth c RX0 cX0_put 8 := C
  refine b_sub (lv' := [(0, .ref (ad b)), (1, .int a1), (2, .int a2), (3, .long a3), (5, .long a4)]) [0, 1, 2, 3, 4] rfl ?_
  refine b_iload_n C 1 dX0_put_0 rfl rfl ?_
  refine b_aload_n C 0 dX0_put_1 rfl rfl ?_
  refine gX0_7 C X hb dX0_put_2 ?_
  refine b_imul C dX0_put_5 ?_
  refine b_iload_n C 2 dX0_put_6 rfl rfl ?_
  refine b_iadd C dX0_put_7 ?_
  obtain ⟨x7, ex7, h8⟩ := lt1_inv h6; clear h6
  refine b_nmI ex7 ?_
  refine b_istore (lv' := [(7, .int x7), (0, .ref (ad b)), (1, .int a1), (2, .int a2), (3, .long a3), (5, .long a4)]) C dX0_put_8 (by decide) rfl ?_
  refine b_iload C 0 dX0_put_10 rfl ?_
  refine b_if_lt (tgt := 35) C dX0_put_12 (by decide) (fun c9 => ?_) (fun c9 => ?_)
  · have h10 := ipos h8 c9; clear h8
    obtain rfl := so1 h10
    exact b_vret C dX0_put_35 hr
  have h11 := ineg h8 c9; clear h8
  refine b_iload C 0 dX0_put_15 rfl ?_
  refine b_aload_n C 1 dX0_put_17 rfl rfl ?_
  refine gX0_13 C X hb dX0_put_18 ?_
  obtain ⟨g13, h12⟩ := gdn h11; clear h11
  refine nX_t C X (nb g13) dX0_put_21 ?_
  refine b_icmp_ge (tgt := 35) C dX0_put_22 (by decide) (fun c14 => ?_) (fun c14 => ?_)
  · have h15 := ipos h12 c14; clear h12
    obtain rfl := so1 h15
    exact b_vret C dX0_put_35 hr
  have h16 := ineg h12 c14; clear h12
  refine b_iload C 0 dX0_put_25 rfl ?_
  refine b_aload_n C 1 dX0_put_27 rfl rfl ?_
  refine gX0_17 C X hb dX0_put_28 ?_
  obtain ⟨g18, h17⟩ := gdn h16; clear h16
  refine nX_t C X (nb g18) dX0_put_31 ?_
  refine b_icmp_lt (tgt := 36) C dX0_put_32 (by decide) (fun c19 => ?_) (fun c19 => ?_)
  · have h20 := ipos h17 c19; clear h17
    refine b_aload_n C 1 dX0_put_36 rfl rfl ?_
    refine gX0_13 C X hb dX0_put_37 ?_
    refine b_iload C 0 dX0_put_40 rfl ?_
    refine b_lload_n C 4 dX0_put_42 rfl rfl ?_
    obtain ⟨g23, h22⟩ := gdn h20; clear h20
    refine aX_t C X (nb g13) g23 dX0_put_43 ?_
    obtain ⟨σ24, eσ24, h25⟩ := lt1_inv h22; clear h22
    refine b_nmS eσ24 ?_
    refine b_aload_n C 1 dX0_put_44 rfl rfl ?_
    refine gX0_17 C X hb dX0_put_45 ?_
    refine b_iload C 0 dX0_put_48 rfl ?_
    refine b_lload C 5 dX0_put_50 rfl ?_
    obtain ⟨g27, h26⟩ := gdn h25; clear h25
    refine aX_t C X (nb g18) g27 dX0_put_52 ?_
    obtain ⟨σ28, eσ28, h29⟩ := lt1_inv h26; clear h26
    refine b_nmS eσ28 ?_
    obtain rfl := so1 h29
    exact b_vret C dX0_put_53 hr
  have h21 := ineg h17 c19; clear h17
  obtain rfl := so1 h21
  exact b_vret C dX0_put_35 hr
def rmX2_meanOfEvery : Room := { frames := 1, cells := 0, slots := 0, locals := 25 }
def fX2_meanOfEvery_8b (N : Nat) (q42 : St → Int64 → Int64 → Option (Int64 × St)) (q8 : St → Int32 → Int32 → Int64 → Int64 → Int32 → Option (Int64 × St)) (σ9 : St) (x4 : Int32) (x5 : Int32) (x6 : Int64) (x7 : Int64) (x8 : Int32) : Option (Int64 × St) :=
  if x5 ≤ x8 then (
  q42 σ9 x6 x7)
  else (
  if x4 ≤ (0 : Int32) then (
  q42 σ9 x6 x7)
  else (
  bd2 (fX2_restAt σ9 x8) fun r19 σ18 =>
  lt1 (x6 + r19) fun x20 =>
  lt1 (x7 + (1 : Int64)) fun x22 =>
  lt1 (x8 + x4) fun x24 =>
  q8 σ18 x4 x5 x20 x22 x24))
def fX2_meanOfEvery_8 (N : Nat) (q42 : St → Int64 → Int64 → Option (Int64 × St)) : Nat → St → Int32 → Int32 → Int64 → Int64 → Int32 → Option (Int64 × St)
  | 0, _, _, _, _, _, _ => none
  | n + 1, σ, x4, x5, x6, x7, x8 => fX2_meanOfEvery_8b N q42 (fX2_meanOfEvery_8 N q42 n) σ x4 x5 x6 x7 x8
def fX2_meanOfEvery (N : Nat) (σ : St) (a1 : Int32) (a2 : Int32) : Option (Int64 × St) :=
  fX2_meanOfEvery_8 N (fun σ28 x26 x27 =>
 if x27 ≤ (0 : Int64) then (
  some ((0 : Int64), σ28))
  else (
  bd0 (fJ9_floorDiv_f86c9 x26 x27) fun r34 =>
  some (r34, σ28))) N σ a1 a2 (0 : Int64) (0 : Int64) (0 : Int32)
theorem wX2_meanOfEvery_8 {l : Launch} {p : Program} {e : Env} {s : State} {m : MethodId} {args : Array Value} {below : List Frame} {meth : Method} {c : Code} {D : va_G} {A : Nat → Prop} {ad : Nat → Nat} {ca : Nat → ClassId} {rf : Int64} {σf : St} (C : Cb p s m args meth c RX2 cX2_meanOfEvery 8) (X : Cx s D A (wX ad ca) (tyX ca)) (hr : meth.sig.returnType = (some .long)) {N : Nat} {q42 : St → Int64 → Int64 → Option (Int64 × St)} (hq42 : ∀ (σ : St) (y0 : Int64) (y1 : Int64), q42 σ y0 y1 = some (rf, σf) → bW p l e rmX2_meanOfEvery s m args below meth c 0 0 (MQ below (Qw D (wX ad ca) σf (some (.long rf)) A) args s 0 0 A) 8 (wd D A (wX ad ca) s σ) 42 [(3, .long y0), (5, .long y1)] []) : ∀ n : Nat, ∀ (σ : St) (y0 : Int32) (y1 : Int32) (y2 : Int64) (y3 : Int64) (y4 : Int32), fX2_meanOfEvery_8 N q42 n σ y0 y1 y2 y3 y4 = some (rf, σf) → bW p l e rmX2_meanOfEvery s m args below meth c 0 0 (MQ below (Qw D (wX ad ca) σf (some (.long rf)) A) args s 0 0 A) 8 (wd D A (wX ad ca) s σ) 8 [(0, .ref (ad 0)), (1, .int y0), (2, .int y1), (3, .long y2), (5, .long y3), (7, .int y4)] [] := by
  intro n
  induction n with
  | zero => intro σ9 x4 x5 x6 x7 x8 h10; exact nn h10
  | succ n hq8 =>
    intro σ9 x4 x5 x6 x7 x8 h10
    replace h10 : fX2_meanOfEvery_8b N q42 (fX2_meanOfEvery_8 N q42 n) σ9 x4 x5 x6 x7 x8 = some (rf, σf) := h10
    refine b_iload C 5 dX2_meanOfEvery_8 rfl ?_
    refine b_iload_n C 2 dX2_meanOfEvery_10 rfl rfl ?_
    refine b_icmp_ge (tgt := 42) C dX2_meanOfEvery_11 (by decide) (fun c11 => ?_) (fun c11 => ?_)
    · have h12 := ipos h10 c11; clear h10
      exact b_sub [3, 4] rfl (hq42 _ _ _ h12)
    have h13 := ineg h10 c11; clear h10
    refine b_iload_n C 1 dX2_meanOfEvery_14 rfl rfl ?_
    refine b_if_le (tgt := 42) C dX2_meanOfEvery_15 (by decide) (fun c14 => ?_) (fun c14 => ?_)
    · have h15 := ipos h13 c14; clear h13
      exact b_sub [3, 4] rfl (hq42 _ _ _ h15)
    have h16 := ineg h13 c14; clear h13
    refine b_lload_n C 3 dX2_meanOfEvery_18 rfl rfl ?_
    refine b_aload_n C 0 dX2_meanOfEvery_19 rfl rfl ?_
    refine b_iload C 5 dX2_meanOfEvery_20 rfl ?_
    obtain ⟨r19, σ18, ec17, h17⟩ := bd2_inv h16; clear h16
    refine b_callWl (rest := [.long x6]) C (sameX ad ca) X dX2_meanOfEvery_22 (ctX2_restAt ec17) mf_X2_restAt mi_X2_restAt kl_X2_145 0 rfl rfl rfl rfl ⟨rfl, rfl⟩ ⟨Nat.le_of_ble_eq_true rfl, Nat.le_of_ble_eq_true rfl⟩ ⟨Nat.zero_le _, Nat.zero_le _⟩ rfl (Nat.le_of_ble_eq_true rfl) ?_
    refine b_ladd C dX2_meanOfEvery_25 ?_
    obtain ⟨x20, ex20, h21⟩ := lt1_inv h17; clear h17
    refine b_nmJ ex20 ?_
    refine b_lstore_n (lv' := [(3, .long x20), (0, .ref (ad 0)), (1, .int x4), (2, .int x5), (5, .long x7), (7, .int x8)]) C dX2_meanOfEvery_26 rfl (by decide) rfl ?_
    refine b_lload C 4 dX2_meanOfEvery_27 rfl ?_
    refine b_lconst (v := (1 : Int64)) C dX2_meanOfEvery_29 (by decide) ?_
    refine b_ladd C dX2_meanOfEvery_30 ?_
    obtain ⟨x22, ex22, h23⟩ := lt1_inv h21; clear h21
    refine b_nmJ ex22 ?_
    refine b_lstore (lv' := [(5, .long x22), (3, .long x20), (0, .ref (ad 0)), (1, .int x4), (2, .int x5), (7, .int x8)]) C dX2_meanOfEvery_31 (by decide) rfl ?_
    refine b_iload C 5 dX2_meanOfEvery_33 rfl ?_
    refine b_iload_n C 3 dX2_meanOfEvery_35 rfl rfl ?_
    refine b_iadd C dX2_meanOfEvery_36 ?_
    obtain ⟨x24, ex24, h25⟩ := lt1_inv h23; clear h23
    refine b_nmI ex24 ?_
    refine b_istore (lv' := [(7, .int x24), (5, .long x22), (3, .long x20), (0, .ref (ad 0)), (1, .int x4), (2, .int x5)]) C dX2_meanOfEvery_37 (by decide) rfl ?_
    refine b_goto (tgt := 8) C dX2_meanOfEvery_39 (by decide) ?_
    exact b_sub [3, 4, 5, 2, 1, 0] rfl (hq8 _ _ _ _ _ _ h25)
theorem ctX2_meanOfEvery {l : Launch} {ad : Nat → Nat} {ca : Nat → ClassId} {N : Nat} {σ : St} {a1 : Int32} {a2 : Int32} {rf : Int64} {σf : St} (h : fX2_meanOfEvery N σ a1 a2 = some (rf, σf)) : Cw l yX2_meanOfEvery cX2_meanOfEvery 8 (some .long) rmX2_meanOfEvery [.ref (ad 0), .int a1, .int a2] (wX ad ca) (tyX ca) σ (some (.long rf)) σf := by
  refine Cw_of (by decide) (sameX ad ca) (Nat.le_of_ble_eq_true rfl) ?_
  intro p e s m args below meth c D A C X hr
  replace C : Cb p s m args meth c RX2 cX2_meanOfEvery 8 := C
  have h3 := h; clear h
  refine b_sub (lv' := [(0, .ref (ad 0)), (1, .int a1), (2, .int a2)]) [0, 1, 2] rfl ?_
  refine b_lconst (v := (0 : Int64)) C dX2_meanOfEvery_0 (by decide) ?_
  refine b_lstore_n (lv' := [(3, .long (0 : Int64)), (0, .ref (ad 0)), (1, .int a1), (2, .int a2)]) C dX2_meanOfEvery_1 rfl (by decide) rfl ?_
  refine b_lconst (v := (0 : Int64)) C dX2_meanOfEvery_2 (by decide) ?_
  refine b_lstore (lv' := [(5, .long (0 : Int64)), (3, .long (0 : Int64)), (0, .ref (ad 0)), (1, .int a1), (2, .int a2)]) C dX2_meanOfEvery_3 (by decide) rfl ?_
  refine b_iconst (v := (0 : Int32)) C dX2_meanOfEvery_5 (by decide) ?_
  refine b_istore (lv' := [(7, .int (0 : Int32)), (5, .long (0 : Int64)), (3, .long (0 : Int64)), (0, .ref (ad 0)), (1, .int a1), (2, .int a2)]) C dX2_meanOfEvery_6 (by decide) rfl ?_
  refine b_sub [3, 4, 5, 2, 1, 0] rfl (wX2_meanOfEvery_8 C X hr (fun σ28 x26 x27 h29 => ?_) _ _ _ _ _ _ _ h3)
  refine b_lload C 1 dX2_meanOfEvery_42 rfl ?_
  refine b_lconst (v := (0 : Int64)) C dX2_meanOfEvery_44 (by decide) ?_
  refine b_lc_le (tgt := 58) C dX2_meanOfEvery_45 dX2_meanOfEvery_46 (by decide) (fun c30 => ?_) (fun c30 => ?_)
  · have h31 := ipos h29 c30; clear h29
    refine b_lconst (v := (0 : Int64)) C dX2_meanOfEvery_58 (by decide) ?_
    obtain ⟨rfl, rfl⟩ := so2 h31
    exact b_lret C dX2_meanOfEvery_59 hr
  have h32 := ineg h29 c30; clear h29
  refine b_lload_n C 0 dX2_meanOfEvery_49 rfl rfl ?_
  refine b_lload C 1 dX2_meanOfEvery_50 rfl ?_
  obtain ⟨r34, ec33, h33⟩ := bd0_inv h32; clear h32
  refine b_callSl (rest := []) C dX2_meanOfEvery_52 (ctJ9_floorDiv_f86c9 ec33) mf_J9_floorDiv_f86c9 ms_J9_floorDiv_f86c9 kl_X2_229 rfl ⟨rfl, rfl⟩ ⟨Nat.le_of_ble_eq_true rfl, Nat.le_of_ble_eq_true rfl⟩ ⟨Nat.zero_le _, Nat.zero_le _⟩ rfl (Nat.le_of_ble_eq_true rfl) ?_
  refine b_goto (tgt := 59) C dX2_meanOfEvery_55 (by decide) ?_
  obtain ⟨rfl, rfl⟩ := so2 h33
  exact b_lret C dX2_meanOfEvery_59 hr
def rmX2_combined : Room := { frames := 2, cells := 0, slots := 0, locals := 52 }
def fX2_combined (N : Nat) (σ : St) (a1 : Int32) : Option (Int64 × St) :=
  if (gI σ 4) = (1 : Int32) then (
  bd2 (fX2_restAt σ (0 : Int32)) fun r8 σ7 =>
  bd2 (fX2_restAt σ7 (a1 - (1 : Int32))) fun r11 σ10 =>
  bd0 (fJ9_floorDiv_f86c9 (r8 + r11) (2 : Int64)) fun r13 =>
  some (r13, σ10))
  else if (gI σ 4) = (2 : Int32) then (
  bd2 (fX2_restAt σ ((a1 - (1 : Int32)) / (2 : Int32))) fun r19 σ18 =>
  bd2 (fX2_restAt σ18 (a1 / (2 : Int32))) fun r22 σ21 =>
  bd0 (fJ9_floorDiv_f86c9 (r19 + r22) (2 : Int64)) fun r24 =>
  some (r24, σ21))
  else if (gI σ 4) = (3 : Int32) then (
  bd0 (fJ9_max_7cf53 (1 : Int32) (gI σ 1)) fun r29 =>
  bd2 (fX2_meanOfEvery N σ r29 a1) fun r32 σ31 =>
  some (r32, σ31))
  else (
  bd2 (fX2_meanOfEvery N σ (1 : Int32) a1) fun r35 σ34 =>
  some (r35, σ34))
theorem ctX2_combined {l : Launch} {ad : Nat → Nat} {ca : Nat → ClassId} {N : Nat} {σ : St} {a1 : Int32} {rf : Int64} {σf : St} (h : fX2_combined N σ a1 = some (rf, σf)) : Cw l yX2_combined cX2_combined 2 (some .long) rmX2_combined [.ref (ad 0), .int a1] (wX ad ca) (tyX ca) σ (some (.long rf)) σf := by
  refine Cw_of (by decide) (sameX ad ca) (Nat.le_of_ble_eq_true rfl) ?_
  intro p e s m args below meth c D A C X hr
  replace C : Cb p s m args meth c RX2 cX2_combined 2 := C
  have h2 := h; clear h
  refine b_sub (lv' := [(0, .ref (ad 0)), (1, .int a1)]) [0, 1] rfl ?_
  refine b_aload_n C 0 dX2_combined_0 rfl rfl ?_
  refine gX2_98 C X dX2_combined_1 ?_
  rcases Classical.em ((gI σ 4) = (1 : Int32)) with c3 | c3
  · have h4 := ipos h2 c3; clear h2
    refine b_tswIn (off := 28) (tgt := 32) (kx := (1 : Int32)) C dX2_combined_4 c3 (by decide) (by decide) (by decide) (by decide) ?_
    refine b_aload_n C 0 dX2_combined_32 rfl rfl ?_
    refine b_iconst (v := (0 : Int32)) C dX2_combined_33 (by decide) ?_
    obtain ⟨r8, σ7, ec6, h6⟩ := bd2_inv h4; clear h4
    refine b_callWl (rest := []) C (sameX ad ca) X dX2_combined_34 (ctX2_restAt ec6) mf_X2_restAt mi_X2_restAt kl_X2_145 0 rfl rfl rfl rfl ⟨rfl, rfl⟩ ⟨Nat.le_of_ble_eq_true rfl, Nat.le_of_ble_eq_true rfl⟩ ⟨Nat.zero_le _, Nat.zero_le _⟩ rfl (Nat.le_of_ble_eq_true rfl) ?_
    refine b_aload_n C 0 dX2_combined_37 rfl rfl ?_
    refine b_iload_n C 1 dX2_combined_38 rfl rfl ?_
    refine b_iconst (v := (1 : Int32)) C dX2_combined_39 (by decide) ?_
    refine b_isub C dX2_combined_40 ?_
    obtain ⟨r11, σ10, ec9, h9⟩ := bd2_inv h6; clear h6
    refine b_callWl (rest := [.long r8]) C (sameX ad ca) X dX2_combined_41 (ctX2_restAt ec9) mf_X2_restAt mi_X2_restAt kl_X2_145 0 rfl rfl rfl rfl ⟨rfl, rfl⟩ ⟨Nat.le_of_ble_eq_true rfl, Nat.le_of_ble_eq_true rfl⟩ ⟨Nat.zero_le _, Nat.zero_le _⟩ rfl (Nat.le_of_ble_eq_true rfl) ?_
    refine b_ladd C dX2_combined_44 ?_
    refine b_ldc2 (v := (2 : Int64)) C dX2_combined_45 kc_X2_166 ?_
    obtain ⟨r13, ec12, h12⟩ := bd0_inv h9; clear h9
    refine b_callSl (rest := []) C dX2_combined_48 (ctJ9_floorDiv_f86c9 ec12) mf_J9_floorDiv_f86c9 ms_J9_floorDiv_f86c9 kl_X2_229 rfl ⟨rfl, rfl⟩ ⟨Nat.le_of_ble_eq_true rfl, Nat.le_of_ble_eq_true rfl⟩ ⟨Nat.zero_le _, Nat.zero_le _⟩ rfl (Nat.le_of_ble_eq_true rfl) ?_
    obtain ⟨rfl, rfl⟩ := so2 h12
    exact b_lret C dX2_combined_51 hr
  have h5 := ineg h2 c3; clear h2
  rcases Classical.em ((gI σ 4) = (2 : Int32)) with c14 | c14
  · have h15 := ipos h5 c14; clear h5
    refine b_tswIn (off := 48) (tgt := 52) (kx := (2 : Int32)) C dX2_combined_4 c14 (by decide) (by decide) (by decide) (by decide) ?_
    refine b_aload_n C 0 dX2_combined_52 rfl rfl ?_
    refine b_iload_n C 1 dX2_combined_53 rfl rfl ?_
    refine b_iconst (v := (1 : Int32)) C dX2_combined_54 (by decide) ?_
    refine b_isub C dX2_combined_55 ?_
    refine b_iconst (v := (2 : Int32)) C dX2_combined_56 (by decide) ?_
    refine b_idiv C dX2_combined_57 (by decide) ?_
    obtain ⟨r19, σ18, ec17, h17⟩ := bd2_inv h15; clear h15
    refine b_callWl (rest := []) C (sameX ad ca) X dX2_combined_58 (ctX2_restAt ec17) mf_X2_restAt mi_X2_restAt kl_X2_145 0 rfl rfl rfl rfl ⟨rfl, rfl⟩ ⟨Nat.le_of_ble_eq_true rfl, Nat.le_of_ble_eq_true rfl⟩ ⟨Nat.zero_le _, Nat.zero_le _⟩ rfl (Nat.le_of_ble_eq_true rfl) ?_
    refine b_aload_n C 0 dX2_combined_61 rfl rfl ?_
    refine b_iload_n C 1 dX2_combined_62 rfl rfl ?_
    refine b_iconst (v := (2 : Int32)) C dX2_combined_63 (by decide) ?_
    refine b_idiv C dX2_combined_64 (by decide) ?_
    obtain ⟨r22, σ21, ec20, h20⟩ := bd2_inv h17; clear h17
    refine b_callWl (rest := [.long r19]) C (sameX ad ca) X dX2_combined_65 (ctX2_restAt ec20) mf_X2_restAt mi_X2_restAt kl_X2_145 0 rfl rfl rfl rfl ⟨rfl, rfl⟩ ⟨Nat.le_of_ble_eq_true rfl, Nat.le_of_ble_eq_true rfl⟩ ⟨Nat.zero_le _, Nat.zero_le _⟩ rfl (Nat.le_of_ble_eq_true rfl) ?_
    refine b_ladd C dX2_combined_68 ?_
    refine b_ldc2 (v := (2 : Int64)) C dX2_combined_69 kc_X2_166 ?_
    obtain ⟨r24, ec23, h23⟩ := bd0_inv h20; clear h20
    refine b_callSl (rest := []) C dX2_combined_72 (ctJ9_floorDiv_f86c9 ec23) mf_J9_floorDiv_f86c9 ms_J9_floorDiv_f86c9 kl_X2_229 rfl ⟨rfl, rfl⟩ ⟨Nat.le_of_ble_eq_true rfl, Nat.le_of_ble_eq_true rfl⟩ ⟨Nat.zero_le _, Nat.zero_le _⟩ rfl (Nat.le_of_ble_eq_true rfl) ?_
    obtain ⟨rfl, rfl⟩ := so2 h23
    exact b_lret C dX2_combined_75 hr
  have h16 := ineg h5 c14; clear h5
  rcases Classical.em ((gI σ 4) = (3 : Int32)) with c25 | c25
  · have h26 := ipos h16 c25; clear h16
    refine b_tswIn (off := 72) (tgt := 76) (kx := (3 : Int32)) C dX2_combined_4 c25 (by decide) (by decide) (by decide) (by decide) ?_
    refine b_aload_n C 0 dX2_combined_76 rfl rfl ?_
    refine b_iconst (v := (1 : Int32)) C dX2_combined_77 (by decide) ?_
    refine b_aload_n C 0 dX2_combined_78 rfl rfl ?_
    refine gX2_101 C X dX2_combined_79 ?_
    obtain ⟨r29, ec28, h28⟩ := bd0_inv h26; clear h26
    refine b_callSi (rest := [.ref (ad 0)]) C dX2_combined_82 (ctJ9_max_7cf53 ec28) mf_J9_max_7cf53 ms_J9_max_7cf53 kl_X2_218 rfl ⟨rfl, rfl⟩ ⟨Nat.le_of_ble_eq_true rfl, Nat.le_of_ble_eq_true rfl⟩ ⟨Nat.zero_le _, Nat.zero_le _⟩ rfl (Nat.le_of_ble_eq_true rfl) ?_
    refine b_iload_n C 1 dX2_combined_85 rfl rfl ?_
    obtain ⟨r32, σ31, ec30, h30⟩ := bd2_inv h28; clear h28
    refine b_callWl (rest := []) C (sameX ad ca) X dX2_combined_86 (ctX2_meanOfEvery ec30) mf_X2_meanOfEvery mi_X2_meanOfEvery kl_X2_232 0 rfl rfl rfl rfl ⟨rfl, rfl⟩ ⟨Nat.le_of_ble_eq_true rfl, Nat.le_of_ble_eq_true rfl⟩ ⟨Nat.zero_le _, Nat.zero_le _⟩ rfl (Nat.le_of_ble_eq_true rfl) ?_
    obtain ⟨rfl, rfl⟩ := so2 h30
    exact b_lret C dX2_combined_89 hr
  have h27 := ineg h16 c25; clear h16
  refine b_tswOut (tgt := 90) C dX2_combined_4 (by have q0 := i32_ne c3 (z := 1) (by decide); have q1 := i32_ne c14 (z := 2) (by decide); have q2 := i32_ne c25 (z := 3) (by decide); omega) (by decide) ?_
  refine b_aload_n C 0 dX2_combined_90 rfl rfl ?_
  refine b_iconst (v := (1 : Int32)) C dX2_combined_91 (by decide) ?_
  refine b_iload_n C 1 dX2_combined_92 rfl rfl ?_
  obtain ⟨r35, σ34, ec33, h33⟩ := bd2_inv h27; clear h27
  refine b_callWl (rest := []) C (sameX ad ca) X dX2_combined_93 (ctX2_meanOfEvery ec33) mf_X2_meanOfEvery mi_X2_meanOfEvery kl_X2_232 0 rfl rfl rfl rfl ⟨rfl, rfl⟩ ⟨Nat.le_of_ble_eq_true rfl, Nat.le_of_ble_eq_true rfl⟩ ⟨Nat.zero_le _, Nat.zero_le _⟩ rfl (Nat.le_of_ble_eq_true rfl) ?_
  obtain ⟨rfl, rfl⟩ := so2 h33
  exact b_lret C dX2_combined_96 hr
def rmX2_nextEnd : Room := { frames := 3, cells := 0, slots := 0, locals := 83 }
def fX2_nextEnd (N : Nat) (σ : St) (a1 : Int32) (a2 : Int32) : Option (Int64 × St) :=
  bd2 (fX2_collectRest N σ a1 a2) fun r6 σ5 =>
  if r6 ≤ (0 : Int32) then (
  bd2 (fX0_end σ5 3 (gI σ5 3) a1 a2) fun r12 σ11 =>
  some (r12, σ11))
  else (
  bd2 (fX2_combined N σ5 r6) fun r15 σ14 =>
  some (r15, σ14))
theorem ctX2_nextEnd {l : Launch} {ad : Nat → Nat} {ca : Nat → ClassId} {N : Nat} {σ : St} {a1 : Int32} {a2 : Int32} {rf : Int64} {σf : St} (h : fX2_nextEnd N σ a1 a2 = some (rf, σf)) : Cw l yX2_nextEnd cX2_nextEnd 4 (some .long) rmX2_nextEnd [.ref (ad 0), .int a1, .int a2] (wX ad ca) (tyX ca) σ (some (.long rf)) σf := by
  refine Cw_of (by decide) (sameX ad ca) (Nat.le_of_ble_eq_true rfl) ?_
  intro p e s m args below meth c D A C X hr
  replace C : Cb p s m args meth c RX2 cX2_nextEnd 4 := C
  have h3 := h; clear h
  refine b_sub (lv' := [(0, .ref (ad 0)), (1, .int a1), (2, .int a2)]) [0, 1, 2] rfl ?_
  refine b_aload_n C 0 dX2_nextEnd_0 rfl rfl ?_
  refine b_iload_n C 1 dX2_nextEnd_1 rfl rfl ?_
  refine b_iload_n C 2 dX2_nextEnd_2 rfl rfl ?_
  obtain ⟨r6, σ5, ec4, h4⟩ := bd2_inv h3; clear h3
  refine b_callWi (rest := []) C (sameX ad ca) X dX2_nextEnd_3 (ctX2_collectRest ec4) mf_X2_collectRest mi_X2_collectRest kl_X2_141 0 rfl rfl rfl rfl ⟨rfl, rfl⟩ ⟨Nat.le_of_ble_eq_true rfl, Nat.le_of_ble_eq_true rfl⟩ ⟨Nat.zero_le _, Nat.zero_le _⟩ rfl (Nat.le_of_ble_eq_true rfl) ?_
  refine b_istore_n (lv' := [(3, .int r6), (0, .ref (ad 0)), (1, .int a1), (2, .int a2)]) C dX2_nextEnd_6 rfl (by decide) rfl ?_
  refine b_iload_n C 0 dX2_nextEnd_7 rfl rfl ?_
  refine b_if_le (tgt := 19) C dX2_nextEnd_8 (by decide) (fun c7 => ?_) (fun c7 => ?_)
  · have h8 := ipos h4 c7; clear h4
    refine b_aload_n C 1 dX2_nextEnd_19 rfl rfl ?_
    refine gX2_23 C X dX2_nextEnd_20 ?_
    refine b_aload_n C 1 dX2_nextEnd_23 rfl rfl ?_
    refine gX2_72 C X dX2_nextEnd_24 ?_
    refine b_iload_n C 2 dX2_nextEnd_27 rfl rfl ?_
    refine b_iload_n C 3 dX2_nextEnd_28 rfl rfl ?_
    obtain ⟨r12, σ11, ec10, h10⟩ := bd2_inv h8; clear h8
    refine b_callWl (rest := []) C (sameX ad ca) X dX2_nextEnd_29 (ctX0_end ec10) mf_X0_end mi_X0_end kl_X2_130 3 rfl rfl rfl rfl ⟨rfl, rfl⟩ ⟨Nat.le_of_ble_eq_true rfl, Nat.le_of_ble_eq_true rfl⟩ ⟨Nat.zero_le _, Nat.zero_le _⟩ rfl (Nat.le_of_ble_eq_true rfl) ?_
    obtain ⟨rfl, rfl⟩ := so2 h10
    exact b_lret C dX2_nextEnd_32 hr
  have h9 := ineg h4 c7; clear h4
  refine b_aload_n C 1 dX2_nextEnd_11 rfl rfl ?_
  refine b_iload_n C 0 dX2_nextEnd_12 rfl rfl ?_
  obtain ⟨r15, σ14, ec13, h13⟩ := bd2_inv h9; clear h9
  refine b_callWl (rest := []) C (sameX ad ca) X dX2_nextEnd_13 (ctX2_combined ec13) mf_X2_combined mi_X2_combined kl_X2_236 0 rfl rfl rfl rfl ⟨rfl, rfl⟩ ⟨Nat.le_of_ble_eq_true rfl, Nat.le_of_ble_eq_true rfl⟩ ⟨Nat.zero_le _, Nat.zero_le _⟩ rfl (Nat.le_of_ble_eq_true rfl) ?_
  refine b_goto (tgt := 32) C dX2_nextEnd_16 (by decide) ?_
  obtain ⟨rfl, rfl⟩ := so2 h13
  exact b_lret C dX2_nextEnd_32 hr
def rmX2_carryOut : Room := { frames := 4, cells := 0, slots := 0, locals := 106 }
def fX2_carryOut_18b (N : Nat) (q66 : St → Int32 → Int32 → Option St) (q18 : St → Int32 → Int32 → Int32 → Option St) (σ16 : St) (x13 : Int32) (x14 : Int32) (x15 : Int32) : Option St :=
  if (gI σ16 0) ≤ x15 then (
  q66 σ16 x13 x14)
  else (
  bd2 (fX2_isCorrect σ16 x15) fun r23 σ22 =>
  if r23 = (0 : Int32) then (
  lt1 (x15 + (1 : Int32)) fun x27 =>
  q18 σ22 x13 x14 x27)
  else (
  bd2 (fX2_nextEnd N σ22 x15 (0 : Int32)) fun r31 σ30 =>
  bd2 (fX2_nextEnd N σ30 x15 (1 : Int32)) fun r34 σ33 =>
  bd0 (fX0_put σ33 3 ((gI σ22 3) + (1 : Int32)) x15 r31 r34) fun σ36 =>
  lt1 (x15 + (1 : Int32)) fun x37 =>
  q18 σ36 x13 x14 x37))
def fX2_carryOut_18 (N : Nat) (q66 : St → Int32 → Int32 → Option St) : Nat → St → Int32 → Int32 → Int32 → Option St
  | 0, _, _, _, _ => none
  | n + 1, σ, x13, x14, x15 => fX2_carryOut_18b N q66 (fX2_carryOut_18 N q66 n) σ x13 x14 x15
def fX2_carryOut_2b (N : Nat) (q82 : St → Option St) (q2 : St → Int32 → Int32 → Option St) (σ5 : St) (x3 : Int32) (x4 : Int32) : Option St :=
  if x3 ≤ x4 then (
  q82 σ5)
  else (
  if (60 : Int32) ≤ (gI σ5 3) then (
  q82 σ5)
  else (
  fX2_carryOut_18 N (fun σ41 x39 x40 =>
 lt1 (sI σ41 3 ((gI σ41 3) + (1 : Int32))) fun σ43 =>
  lt1 (x40 + (1 : Int32)) fun x45 =>
  q2 σ43 x39 x45) N σ5 x3 x4 (0 : Int32)))
def fX2_carryOut_2 (N : Nat) (q82 : St → Option St) : Nat → St → Int32 → Int32 → Option St
  | 0, _, _, _ => none
  | n + 1, σ, x3, x4 => fX2_carryOut_2b N q82 (fX2_carryOut_2 N q82 n) σ x3 x4
def fX2_carryOut (N : Nat) (σ : St) (a1 : Int32) : Option St :=
  fX2_carryOut_2 N (fun σ47 =>
 some σ47) N σ a1 (0 : Int32)
theorem wX2_carryOut_18 {l : Launch} {p : Program} {e : Env} {s : State} {m : MethodId} {args : Array Value} {below : List Frame} {meth : Method} {c : Code} {D : va_G} {A : Nat → Prop} {ad : Nat → Nat} {ca : Nat → ClassId} {σf : St} (C : Cb p s m args meth c RX2 cX2_carryOut 4) (X : Cx s D A (wX ad ca) (tyX ca)) (hr : meth.sig.returnType = none) {N : Nat} {q66 : St → Int32 → Int32 → Option St} (hq66 : ∀ (σ : St) (y0 : Int32) (y1 : Int32), q66 σ y0 y1 = some σf → bW p l e rmX2_carryOut s m args below meth c 0 0 (MQ below (Qw D (wX ad ca) σf none A) args s 0 0 A) 4 (wd D A (wX ad ca) s σ) 66 [(0, .ref (ad 0)), (1, .int y0), (2, .int y1)] []) : ∀ n : Nat, ∀ (σ : St) (y0 : Int32) (y1 : Int32) (y2 : Int32), fX2_carryOut_18 N q66 n σ y0 y1 y2 = some σf → bW p l e rmX2_carryOut s m args below meth c 0 0 (MQ below (Qw D (wX ad ca) σf none A) args s 0 0 A) 4 (wd D A (wX ad ca) s σ) 18 [(0, .ref (ad 0)), (1, .int y0), (2, .int y1), (3, .int y2)] [] := by
  intro n
  induction n with
  | zero => intro σ16 x13 x14 x15 h17; exact nn h17
  | succ n hq18 =>
    intro σ16 x13 x14 x15 h17
    replace h17 : fX2_carryOut_18b N q66 (fX2_carryOut_18 N q66 n) σ16 x13 x14 x15 = some σf := h17
    refine b_iload_n C 3 dX2_carryOut_18 rfl rfl ?_
    refine b_aload_n C 0 dX2_carryOut_19 rfl rfl ?_
    refine gX2_53 C X dX2_carryOut_20 ?_
    refine b_icmp_ge (tgt := 66) C dX2_carryOut_23 (by decide) (fun c18 => ?_) (fun c18 => ?_)
    · have h19 := ipos h17 c18; clear h17
      exact b_sub [0, 1, 2] rfl (hq66 _ _ _ h19)
    have h20 := ineg h17 c18; clear h17
    refine b_aload_n C 0 dX2_carryOut_26 rfl rfl ?_
    refine b_iload_n C 3 dX2_carryOut_27 rfl rfl ?_
    obtain ⟨r23, σ22, ec21, h21⟩ := bd2_inv h20; clear h20
    refine b_callWi (rest := []) C (sameX ad ca) X dX2_carryOut_28 (ctX2_isCorrect ec21) mf_X2_isCorrect mi_X2_isCorrect kl_X2_125 0 rfl rfl rfl rfl ⟨rfl, rfl⟩ ⟨Nat.le_of_ble_eq_true rfl, Nat.le_of_ble_eq_true rfl⟩ ⟨Nat.zero_le _, Nat.zero_le _⟩ rfl (Nat.le_of_ble_eq_true rfl) ?_
    refine b_if_eq (tgt := 60) C dX2_carryOut_31 (by decide) (fun c24 => ?_) (fun c24 => ?_)
    · have h25 := ipos h21 c24; clear h21
      obtain ⟨x27, ex27, h28⟩ := lt1_inv h25; clear h25
      refine b_iinc (v := x27) (lv' := [(3, .int x27), (0, .ref (ad 0)), (1, .int x13), (2, .int x14)]) C 3 dX2_carryOut_60 rfl (by rw [ex27]; rfl) (by decide) rfl ?_
      refine b_goto (tgt := 18) C dX2_carryOut_63 (by decide) ?_
      exact b_sub [1, 2, 3, 0] rfl (hq18 _ _ _ _ h28)
    have h26 := ineg h21 c24; clear h21
    refine b_aload_n C 0 dX2_carryOut_34 rfl rfl ?_
    refine gX2_23 C X dX2_carryOut_35 ?_
    refine b_aload_n C 0 dX2_carryOut_38 rfl rfl ?_
    refine gX2_72 C X dX2_carryOut_39 ?_
    refine b_iconst (v := (1 : Int32)) C dX2_carryOut_42 (by decide) ?_
    refine b_iadd C dX2_carryOut_43 ?_
    refine b_iload_n C 3 dX2_carryOut_44 rfl rfl ?_
    refine b_aload_n C 0 dX2_carryOut_45 rfl rfl ?_
    refine b_iload_n C 3 dX2_carryOut_46 rfl rfl ?_
    refine b_iconst (v := (0 : Int32)) C dX2_carryOut_47 (by decide) ?_
    obtain ⟨r31, σ30, ec29, h29⟩ := bd2_inv h26; clear h26
    refine b_callWl (rest := [.int x15, .int ((gI σ22 3) + (1 : Int32)), .ref (ad 3)]) C (sameX ad ca) X dX2_carryOut_48 (ctX2_nextEnd ec29) mf_X2_nextEnd mi_X2_nextEnd kl_X2_239 0 rfl rfl rfl rfl ⟨rfl, rfl⟩ ⟨Nat.le_of_ble_eq_true rfl, Nat.le_of_ble_eq_true rfl⟩ ⟨Nat.zero_le _, Nat.zero_le _⟩ rfl (Nat.le_of_ble_eq_true rfl) ?_
    refine b_aload_n C 0 dX2_carryOut_51 rfl rfl ?_
    refine b_iload_n C 3 dX2_carryOut_52 rfl rfl ?_
    refine b_iconst (v := (1 : Int32)) C dX2_carryOut_53 (by decide) ?_
    obtain ⟨r34, σ33, ec32, h32⟩ := bd2_inv h29; clear h29
    refine b_callWl (rest := [.long r31, .int x15, .int ((gI σ22 3) + (1 : Int32)), .ref (ad 3)]) C (sameX ad ca) X dX2_carryOut_54 (ctX2_nextEnd ec32) mf_X2_nextEnd mi_X2_nextEnd kl_X2_239 0 rfl rfl rfl rfl ⟨rfl, rfl⟩ ⟨Nat.le_of_ble_eq_true rfl, Nat.le_of_ble_eq_true rfl⟩ ⟨Nat.zero_le _, Nat.zero_le _⟩ rfl (Nat.le_of_ble_eq_true rfl) ?_
    obtain ⟨σ36, ec35, h35⟩ := bd0_inv h32; clear h32
    refine b_callWv (rest := []) C (sameX ad ca) X dX2_carryOut_57 (ctX0_put ec35) mf_X0_put mi_X0_put kl_X2_190 3 rfl rfl rfl rfl ⟨rfl, rfl⟩ ⟨Nat.le_of_ble_eq_true rfl, Nat.le_of_ble_eq_true rfl⟩ ⟨Nat.zero_le _, Nat.zero_le _⟩ rfl (Nat.le_of_ble_eq_true rfl) ?_
    obtain ⟨x37, ex37, h38⟩ := lt1_inv h35; clear h35
    refine b_iinc (v := x37) (lv' := [(3, .int x37), (0, .ref (ad 0)), (1, .int x13), (2, .int x14)]) C 3 dX2_carryOut_60 rfl (by rw [ex37]; rfl) (by decide) rfl ?_
    refine b_goto (tgt := 18) C dX2_carryOut_63 (by decide) ?_
    exact b_sub [1, 2, 3, 0] rfl (hq18 _ _ _ _ h38)
theorem wX2_carryOut_2 {l : Launch} {p : Program} {e : Env} {s : State} {m : MethodId} {args : Array Value} {below : List Frame} {meth : Method} {c : Code} {D : va_G} {A : Nat → Prop} {ad : Nat → Nat} {ca : Nat → ClassId} {σf : St} (C : Cb p s m args meth c RX2 cX2_carryOut 4) (X : Cx s D A (wX ad ca) (tyX ca)) (hr : meth.sig.returnType = none) {N : Nat} {q82 : St → Option St} (hq82 : ∀ (σ : St), q82 σ = some σf → bW p l e rmX2_carryOut s m args below meth c 0 0 (MQ below (Qw D (wX ad ca) σf none A) args s 0 0 A) 4 (wd D A (wX ad ca) s σ) 82 [] []) : ∀ n : Nat, ∀ (σ : St) (y0 : Int32) (y1 : Int32), fX2_carryOut_2 N q82 n σ y0 y1 = some σf → bW p l e rmX2_carryOut s m args below meth c 0 0 (MQ below (Qw D (wX ad ca) σf none A) args s 0 0 A) 4 (wd D A (wX ad ca) s σ) 2 [(0, .ref (ad 0)), (1, .int y0), (2, .int y1)] [] := by
  intro n
  induction n with
  | zero => intro σ5 x3 x4 h6; exact nn h6
  | succ n hq2 =>
    intro σ5 x3 x4 h6
    replace h6 : fX2_carryOut_2b N q82 (fX2_carryOut_2 N q82 n) σ5 x3 x4 = some σf := h6
    refine b_iload_n C 2 dX2_carryOut_2 rfl rfl ?_
    refine b_iload_n C 1 dX2_carryOut_3 rfl rfl ?_
    refine b_icmp_ge (tgt := 82) C dX2_carryOut_4 (by decide) (fun c7 => ?_) (fun c7 => ?_)
    · have h8 := ipos h6 c7; clear h6
      exact b_sub [] rfl (hq82 _ h8)
    have h9 := ineg h6 c7; clear h6
    refine b_aload_n C 0 dX2_carryOut_7 rfl rfl ?_
    refine gX2_72 C X dX2_carryOut_8 ?_
    refine b_bipush (v := (60 : Int32)) C dX2_carryOut_11 (by decide) ?_
    refine b_icmp_ge (tgt := 82) C dX2_carryOut_13 (by decide) (fun c10 => ?_) (fun c10 => ?_)
    · have h11 := ipos h9 c10; clear h9
      exact b_sub [] rfl (hq82 _ h11)
    have h12 := ineg h9 c10; clear h9
    refine b_iconst (v := (0 : Int32)) C dX2_carryOut_16 (by decide) ?_
    refine b_istore_n (lv' := [(3, .int (0 : Int32)), (0, .ref (ad 0)), (1, .int x3), (2, .int x4)]) C dX2_carryOut_17 rfl (by decide) rfl ?_
    refine b_sub [1, 2, 3, 0] rfl (wX2_carryOut_18 C X hr (fun σ41 x39 x40 h42 => ?_) _ _ _ _ _ h12)
    refine b_aload_n C 0 dX2_carryOut_66 rfl rfl ?_
    refine b_dup C dX2_carryOut_67 rfl ?_
    refine gX2_72 C X dX2_carryOut_68 ?_
    refine b_iconst (v := (1 : Int32)) C dX2_carryOut_71 (by decide) ?_
    refine b_iadd C dX2_carryOut_72 ?_
    refine pX2_72 C X dX2_carryOut_73 ?_
    obtain ⟨σ43, eσ43, h44⟩ := lt1_inv h42; clear h42
    refine b_nmS eσ43 ?_
    obtain ⟨x45, ex45, h46⟩ := lt1_inv h44; clear h44
    refine b_iinc (v := x45) (lv' := [(2, .int x45), (0, .ref (ad 0)), (1, .int x39)]) C 2 dX2_carryOut_76 rfl (by rw [ex45]; rfl) (by decide) rfl ?_
    refine b_goto (tgt := 2) C dX2_carryOut_79 (by decide) ?_
    exact b_sub [1, 2, 0] rfl (hq2 _ _ _ h46)
theorem ctX2_carryOut {l : Launch} {ad : Nat → Nat} {ca : Nat → ClassId} {N : Nat} {σ : St} {a1 : Int32} {σf : St} (h : fX2_carryOut N σ a1 = some σf) : Cw l yX2_carryOut cX2_carryOut 4 none rmX2_carryOut [.ref (ad 0), .int a1] (wX ad ca) (tyX ca) σ none σf := by
  refine Cw_of (by decide) (sameX ad ca) (Nat.le_of_ble_eq_true rfl) ?_
  intro p e s m args below meth c D A C X hr
  replace C : Cb p s m args meth c RX2 cX2_carryOut 4 := C
  have h2 := h; clear h
  refine b_sub (lv' := [(0, .ref (ad 0)), (1, .int a1)]) [0, 1] rfl ?_
  refine b_iconst (v := (0 : Int32)) C dX2_carryOut_0 (by decide) ?_
  refine b_istore_n (lv' := [(2, .int (0 : Int32)), (0, .ref (ad 0)), (1, .int a1)]) C dX2_carryOut_1 rfl (by decide) rfl ?_
  refine b_sub [1, 2, 0] rfl (wX2_carryOut_2 C X hr (fun σ47 h48 => ?_) _ _ _ _ h2)
  obtain rfl := so1 h48
  exact b_vret C dX2_carryOut_82 hr
def rmX2_widthAfter : Room := { frames := 1, cells := 0, slots := 0, locals := 32 }
def fX2_widthAfter (N : Nat) (σ : St) (a1 : Int32) : Option (Int64 × St) :=
  bd2 (fX2_correctSet N σ) fun r5 σ4 =>
  bd2 (fX0_extremeEnd N σ4 3 a1 r5 (0 : Int32) (1 : Int32)) fun r8 σ7 =>
  bd2 (fX0_extremeEnd N σ7 3 a1 r5 (0 : Int32) (0 : Int32)) fun r11 σ10 =>
  lt1 (r8 - r11) fun x12 =>
  bd2 (fX0_extremeEnd N σ10 3 a1 r5 (1 : Int32) (1 : Int32)) fun r16 σ15 =>
  bd2 (fX0_extremeEnd N σ15 3 a1 r5 (1 : Int32) (0 : Int32)) fun r19 σ18 =>
  lt1 (r16 - r19) fun x20 =>
  bd0 (fJ9_max_f86c9 x12 x20) fun r23 =>
  some (r23, σ18)
theorem ctX2_widthAfter {l : Launch} {ad : Nat → Nat} {ca : Nat → ClassId} {N : Nat} {σ : St} {a1 : Int32} {rf : Int64} {σf : St} (h : fX2_widthAfter N σ a1 = some (rf, σf)) : Cw l yX2_widthAfter cX2_widthAfter 7 (some .long) rmX2_widthAfter [.ref (ad 0), .int a1] (wX ad ca) (tyX ca) σ (some (.long rf)) σf := by
  refine Cw_of (by decide) (sameX ad ca) (Nat.le_of_ble_eq_true rfl) ?_
  intro p e s m args below meth c D A C X hr
  replace C : Cb p s m args meth c RX2 cX2_widthAfter 7 := C
  have h2 := h; clear h
  refine b_sub (lv' := [(0, .ref (ad 0)), (1, .int a1)]) [0, 1] rfl ?_
  refine b_aload_n C 0 dX2_widthAfter_0 rfl rfl ?_
  obtain ⟨r5, σ4, ec3, h3⟩ := bd2_inv h2; clear h2
  refine b_callWi (rest := []) C (sameX ad ca) X dX2_widthAfter_1 (ctX2_correctSet ec3) mf_X2_correctSet mi_X2_correctSet kl_X2_149 0 rfl rfl rfl rfl ⟨rfl, rfl⟩ ⟨Nat.le_of_ble_eq_true rfl, Nat.le_of_ble_eq_true rfl⟩ ⟨Nat.zero_le _, Nat.zero_le _⟩ rfl (Nat.le_of_ble_eq_true rfl) ?_
  refine b_istore_n (lv' := [(2, .int r5), (0, .ref (ad 0)), (1, .int a1)]) C dX2_widthAfter_4 rfl (by decide) rfl ?_
  refine b_aload_n C 1 dX2_widthAfter_5 rfl rfl ?_
  refine gX2_23 C X dX2_widthAfter_6 ?_
  refine b_iload_n C 2 dX2_widthAfter_9 rfl rfl ?_
  refine b_iload_n C 0 dX2_widthAfter_10 rfl rfl ?_
  refine b_iconst (v := (0 : Int32)) C dX2_widthAfter_11 (by decide) ?_
  refine b_iconst (v := (1 : Int32)) C dX2_widthAfter_12 (by decide) ?_
  obtain ⟨r8, σ7, ec6, h6⟩ := bd2_inv h3; clear h3
  refine b_callWl (rest := []) C (sameX ad ca) X dX2_widthAfter_13 (ctX0_extremeEnd ec6) mf_X0_extremeEnd mi_X0_extremeEnd kl_X2_168 3 rfl rfl rfl rfl ⟨rfl, rfl⟩ ⟨Nat.le_of_ble_eq_true rfl, Nat.le_of_ble_eq_true rfl⟩ ⟨Nat.zero_le _, Nat.zero_le _⟩ rfl (Nat.le_of_ble_eq_true rfl) ?_
  refine b_aload_n C 1 dX2_widthAfter_16 rfl rfl ?_
  refine gX2_23 C X dX2_widthAfter_17 ?_
  refine b_iload_n C 2 dX2_widthAfter_20 rfl rfl ?_
  refine b_iload_n C 0 dX2_widthAfter_21 rfl rfl ?_
  refine b_iconst (v := (0 : Int32)) C dX2_widthAfter_22 (by decide) ?_
  refine b_iconst (v := (0 : Int32)) C dX2_widthAfter_23 (by decide) ?_
  obtain ⟨r11, σ10, ec9, h9⟩ := bd2_inv h6; clear h6
  refine b_callWl (rest := [.long r8]) C (sameX ad ca) X dX2_widthAfter_24 (ctX0_extremeEnd ec9) mf_X0_extremeEnd mi_X0_extremeEnd kl_X2_168 3 rfl rfl rfl rfl ⟨rfl, rfl⟩ ⟨Nat.le_of_ble_eq_true rfl, Nat.le_of_ble_eq_true rfl⟩ ⟨Nat.zero_le _, Nat.zero_le _⟩ rfl (Nat.le_of_ble_eq_true rfl) ?_
  refine b_lsub C dX2_widthAfter_27 ?_
  obtain ⟨x12, ex12, h13⟩ := lt1_inv h9; clear h9
  refine b_nmJ ex12 ?_
  refine b_lstore_n (lv' := [(3, .long x12), (2, .int r5), (0, .ref (ad 0)), (1, .int a1)]) C dX2_widthAfter_28 rfl (by decide) rfl ?_
  refine b_aload_n C 2 dX2_widthAfter_29 rfl rfl ?_
  refine gX2_23 C X dX2_widthAfter_30 ?_
  refine b_iload_n C 3 dX2_widthAfter_33 rfl rfl ?_
  refine b_iload_n C 1 dX2_widthAfter_34 rfl rfl ?_
  refine b_iconst (v := (1 : Int32)) C dX2_widthAfter_35 (by decide) ?_
  refine b_iconst (v := (1 : Int32)) C dX2_widthAfter_36 (by decide) ?_
  obtain ⟨r16, σ15, ec14, h14⟩ := bd2_inv h13; clear h13
  refine b_callWl (rest := []) C (sameX ad ca) X dX2_widthAfter_37 (ctX0_extremeEnd ec14) mf_X0_extremeEnd mi_X0_extremeEnd kl_X2_168 3 rfl rfl rfl rfl ⟨rfl, rfl⟩ ⟨Nat.le_of_ble_eq_true rfl, Nat.le_of_ble_eq_true rfl⟩ ⟨Nat.zero_le _, Nat.zero_le _⟩ rfl (Nat.le_of_ble_eq_true rfl) ?_
  refine b_aload_n C 2 dX2_widthAfter_40 rfl rfl ?_
  refine gX2_23 C X dX2_widthAfter_41 ?_
  refine b_iload_n C 3 dX2_widthAfter_44 rfl rfl ?_
  refine b_iload_n C 1 dX2_widthAfter_45 rfl rfl ?_
  refine b_iconst (v := (1 : Int32)) C dX2_widthAfter_46 (by decide) ?_
  refine b_iconst (v := (0 : Int32)) C dX2_widthAfter_47 (by decide) ?_
  obtain ⟨r19, σ18, ec17, h17⟩ := bd2_inv h14; clear h14
  refine b_callWl (rest := [.long r16]) C (sameX ad ca) X dX2_widthAfter_48 (ctX0_extremeEnd ec17) mf_X0_extremeEnd mi_X0_extremeEnd kl_X2_168 3 rfl rfl rfl rfl ⟨rfl, rfl⟩ ⟨Nat.le_of_ble_eq_true rfl, Nat.le_of_ble_eq_true rfl⟩ ⟨Nat.zero_le _, Nat.zero_le _⟩ rfl (Nat.le_of_ble_eq_true rfl) ?_
  refine b_lsub C dX2_widthAfter_51 ?_
  obtain ⟨x20, ex20, h21⟩ := lt1_inv h17; clear h17
  refine b_nmJ ex20 ?_
  refine b_lstore (lv' := [(5, .long x20), (3, .long x12), (2, .int r5), (0, .ref (ad 0)), (1, .int a1)]) C dX2_widthAfter_52 (by decide) rfl ?_
  refine b_lload_n C 1 dX2_widthAfter_54 rfl rfl ?_
  refine b_lload C 0 dX2_widthAfter_55 rfl ?_
  obtain ⟨r23, ec22, h22⟩ := bd0_inv h21; clear h21
  refine b_callSl (rest := []) C dX2_widthAfter_57 (ctJ9_max_f86c9 ec22) mf_J9_max_f86c9 ms_J9_max_f86c9 kl_X2_215 rfl ⟨rfl, rfl⟩ ⟨Nat.le_of_ble_eq_true rfl, Nat.le_of_ble_eq_true rfl⟩ ⟨Nat.zero_le _, Nat.zero_le _⟩ rfl (Nat.le_of_ble_eq_true rfl) ?_
  obtain ⟨rfl, rfl⟩ := so2 h22
  exact b_lret C dX2_widthAfter_60 hr
def rmX2_widthInFuture : Room := { frames := 5, cells := 0, slots := 0, locals := 129 }
def fX2_widthInFuture (N : Nat) (σ : St) (a1 : Int32) : Option (Int64 × St) :=
  lt1 (gI σ 3) fun x3 =>
  bd0 (fX2_carryOut N σ a1) fun σ6 =>
  bd2 (fX2_widthAfter N σ6 (gI σ6 3)) fun r9 σ8 =>
  lt1 (sI σ8 3 x3) fun σ10 =>
  some (r9, σ10)
theorem ctX2_widthInFuture {l : Launch} {ad : Nat → Nat} {ca : Nat → ClassId} {N : Nat} {σ : St} {a1 : Int32} {rf : Int64} {σf : St} (h : fX2_widthInFuture N σ a1 = some (rf, σf)) : Cw l yX2_widthInFuture cX2_widthInFuture 5 (some .long) rmX2_widthInFuture [.ref (ad 0), .int a1] (wX ad ca) (tyX ca) σ (some (.long rf)) σf := by
  refine Cw_of (by decide) (sameX ad ca) (Nat.le_of_ble_eq_true rfl) ?_
  intro p e s m args below meth c D A C X hr
  replace C : Cb p s m args meth c RX2 cX2_widthInFuture 5 := C
  have h2 := h; clear h
  refine b_sub (lv' := [(0, .ref (ad 0)), (1, .int a1)]) [0, 1] rfl ?_
  refine b_aload_n C 0 dX2_widthInFuture_0 rfl rfl ?_
  refine gX2_72 C X dX2_widthInFuture_1 ?_
  obtain ⟨x3, ex3, h4⟩ := lt1_inv h2; clear h2
  refine b_nmI ex3 ?_
  refine b_istore_n (lv' := [(2, .int x3), (0, .ref (ad 0)), (1, .int a1)]) C dX2_widthInFuture_4 rfl (by decide) rfl ?_
  refine b_aload_n C 1 dX2_widthInFuture_5 rfl rfl ?_
  refine b_iload_n C 2 dX2_widthInFuture_6 rfl rfl ?_
  obtain ⟨σ6, ec5, h5⟩ := bd0_inv h4; clear h4
  refine b_callWv (rest := []) C (sameX ad ca) X dX2_widthInFuture_7 (ctX2_carryOut ec5) mf_X2_carryOut mi_X2_carryOut kl_X2_114 0 rfl rfl rfl rfl ⟨rfl, rfl⟩ ⟨Nat.le_of_ble_eq_true rfl, Nat.le_of_ble_eq_true rfl⟩ ⟨Nat.zero_le _, Nat.zero_le _⟩ rfl (Nat.le_of_ble_eq_true rfl) ?_
  refine b_aload_n C 1 dX2_widthInFuture_10 rfl rfl ?_
  refine b_aload_n C 1 dX2_widthInFuture_11 rfl rfl ?_
  refine gX2_72 C X dX2_widthInFuture_12 ?_
  obtain ⟨r9, σ8, ec7, h7⟩ := bd2_inv h5; clear h5
  refine b_callWl (rest := []) C (sameX ad ca) X dX2_widthInFuture_15 (ctX2_widthAfter ec7) mf_X2_widthAfter mi_X2_widthAfter kl_X2_155 0 rfl rfl rfl rfl ⟨rfl, rfl⟩ ⟨Nat.le_of_ble_eq_true rfl, Nat.le_of_ble_eq_true rfl⟩ ⟨Nat.zero_le _, Nat.zero_le _⟩ rfl (Nat.le_of_ble_eq_true rfl) ?_
  refine b_lstore_n (lv' := [(3, .long r9), (2, .int x3), (0, .ref (ad 0)), (1, .int a1)]) C dX2_widthInFuture_18 rfl (by decide) rfl ?_
  refine b_aload_n C 2 dX2_widthInFuture_19 rfl rfl ?_
  refine b_iload_n C 1 dX2_widthInFuture_20 rfl rfl ?_
  refine pX2_72 C X dX2_widthInFuture_21 ?_
  obtain ⟨σ10, eσ10, h11⟩ := lt1_inv h7; clear h7
  refine b_nmS eσ10 ?_
  refine b_lload_n C 0 dX2_widthInFuture_24 rfl rfl ?_
  obtain ⟨rfl, rfl⟩ := so2 h11
  exact b_lret C dX2_widthInFuture_25 hr
def rmX2_bestRule : Room := { frames := 6, cells := 0, slots := 0, locals := 153 }
def fX2_bestRule_42b (N : Nat) (q87 : St → Int32 → Int32 → Option (Int32 × St)) (q42 : St → Int32 → Int32 → Int32 → Int64 → Int32 → Option (Int32 × St)) (σ18 : St) (x13 : Int32) (x14 : Int32) (x15 : Int32) (x16 : Int64) (x17 : Int32) : Option (Int32 × St) :=
  if (3 : Int32) < x17 then (
  q87 σ18 x14 x15)
  else (
  lt1 (sI σ18 4 x17) fun σ23 =>
  bd2 (fX2_widthInFuture N σ23 x13) fun r27 σ26 =>
  if x17 = (0 : Int32) then (
  lt1 (x17 + (1 : Int32)) fun x31 =>
  q42 σ26 x13 x14 x17 r27 x31)
  else (
  if x16 ≤ r27 then (
  lt1 (x17 + (1 : Int32)) fun x36 =>
  q42 σ26 x13 x14 x15 x16 x36)
  else (
  lt1 (x17 + (1 : Int32)) fun x38 =>
  q42 σ26 x13 x14 x17 r27 x38)))
def fX2_bestRule_42 (N : Nat) (q87 : St → Int32 → Int32 → Option (Int32 × St)) : Nat → St → Int32 → Int32 → Int32 → Int64 → Int32 → Option (Int32 × St)
  | 0, _, _, _, _, _, _ => none
  | n + 1, σ, x13, x14, x15, x16, x17 => fX2_bestRule_42b N q87 (fX2_bestRule_42 N q87 n) σ x13 x14 x15 x16 x17
def fX2_bestRule (N : Nat) (σ : St) (a1 : Int32) : Option (Int32 × St) :=
  bd0 (fX2_isWithin a1 (1 : Int32) (10 : Int32)) fun r4 =>
  if r4 = (0 : Int32) then (
  some ((-1002 : Int32), σ))
  else (
  if ((gI σ 3) + a1) ≤ (60 : Int32) then (
  lt1 (gI σ 4) fun x11 =>
  fX2_bestRule_42 N (fun σ42 x40 x41 =>
 lt1 (sI σ42 4 x40) fun σ44 =>
  some (x41, σ44)) N σ a1 x11 (0 : Int32) (0 : Int64) (0 : Int32))
  else (
  some ((-1004 : Int32), σ)))
theorem wX2_bestRule_42 {l : Launch} {p : Program} {e : Env} {s : State} {m : MethodId} {args : Array Value} {below : List Frame} {meth : Method} {c : Code} {D : va_G} {A : Nat → Prop} {ad : Nat → Nat} {ca : Nat → ClassId} {rf : Int32} {σf : St} (C : Cb p s m args meth c RX2 cX2_bestRule 9) (X : Cx s D A (wX ad ca) (tyX ca)) (hr : meth.sig.returnType = (some .int)) {N : Nat} {q87 : St → Int32 → Int32 → Option (Int32 × St)} (hq87 : ∀ (σ : St) (y0 : Int32) (y1 : Int32), q87 σ y0 y1 = some (rf, σf) → bW p l e rmX2_bestRule s m args below meth c 0 0 (MQ below (Qw D (wX ad ca) σf (some (.int rf)) A) args s 0 0 A) 9 (wd D A (wX ad ca) s σ) 87 [(0, .ref (ad 0)), (2, .int y0), (3, .int y1)] []) : ∀ n : Nat, ∀ (σ : St) (y0 : Int32) (y1 : Int32) (y2 : Int32) (y3 : Int64) (y4 : Int32), fX2_bestRule_42 N q87 n σ y0 y1 y2 y3 y4 = some (rf, σf) → bW p l e rmX2_bestRule s m args below meth c 0 0 (MQ below (Qw D (wX ad ca) σf (some (.int rf)) A) args s 0 0 A) 9 (wd D A (wX ad ca) s σ) 42 [(0, .ref (ad 0)), (1, .int y0), (2, .int y1), (3, .int y2), (4, .long y3), (6, .int y4)] [] := by
  intro n
  induction n with
  | zero => intro σ18 x13 x14 x15 x16 x17 h19; exact nn h19
  | succ n hq42 =>
    intro σ18 x13 x14 x15 x16 x17 h19
    replace h19 : fX2_bestRule_42b N q87 (fX2_bestRule_42 N q87 n) σ18 x13 x14 x15 x16 x17 = some (rf, σf) := h19
    refine b_iload C 5 dX2_bestRule_42 rfl ?_
    refine b_iconst (v := (3 : Int32)) C dX2_bestRule_44 (by decide) ?_
    refine b_icmp_gt (tgt := 87) C dX2_bestRule_45 (by decide) (fun c20 => ?_) (fun c20 => ?_)
    · have h21 := ipos h19 c20; clear h19
      exact b_sub [0, 2, 3] rfl (hq87 _ _ _ h21)
    have h22 := ineg h19 c20; clear h19
    refine b_aload_n C 0 dX2_bestRule_48 rfl rfl ?_
    refine b_iload C 5 dX2_bestRule_49 rfl ?_
    refine pX2_98 C X dX2_bestRule_51 ?_
    obtain ⟨σ23, eσ23, h24⟩ := lt1_inv h22; clear h22
    refine b_nmS eσ23 ?_
    refine b_aload_n C 0 dX2_bestRule_54 rfl rfl ?_
    refine b_iload_n C 1 dX2_bestRule_55 rfl rfl ?_
    obtain ⟨r27, σ26, ec25, h25⟩ := bd2_inv h24; clear h24
    refine b_callWl (rest := []) C (sameX ad ca) X dX2_bestRule_56 (ctX2_widthInFuture ec25) mf_X2_widthInFuture mi_X2_widthInFuture kl_X2_174 0 rfl rfl rfl rfl ⟨rfl, rfl⟩ ⟨Nat.le_of_ble_eq_true rfl, Nat.le_of_ble_eq_true rfl⟩ ⟨Nat.zero_le _, Nat.zero_le _⟩ rfl (Nat.le_of_ble_eq_true rfl) ?_
    refine b_lstore (lv' := [(7, .long r27), (0, .ref (ad 0)), (1, .int x13), (2, .int x14), (3, .int x15), (4, .long x16), (6, .int x17)]) C dX2_bestRule_59 (by decide) rfl ?_
    refine b_iload C 6 dX2_bestRule_61 rfl ?_
    refine b_if_eq (tgt := 74) C dX2_bestRule_63 (by decide) (fun c28 => ?_) (fun c28 => ?_)
    · have h29 := ipos h25 c28; clear h25
      refine b_lload C 0 dX2_bestRule_74 rfl ?_
      refine b_lstore (lv' := [(4, .long r27), (7, .long r27), (0, .ref (ad 0)), (1, .int x13), (2, .int x14), (3, .int x15), (6, .int x17)]) C dX2_bestRule_76 (by decide) rfl ?_
      refine b_iload C 6 dX2_bestRule_78 rfl ?_
      refine b_istore_n (lv' := [(3, .int x17), (4, .long r27), (7, .long r27), (0, .ref (ad 0)), (1, .int x13), (2, .int x14), (6, .int x17)]) C dX2_bestRule_80 rfl (by decide) rfl ?_
      obtain ⟨x31, ex31, h32⟩ := lt1_inv h29; clear h29
      refine b_iinc (v := x31) (lv' := [(6, .int x31), (3, .int x17), (4, .long r27), (7, .long r27), (0, .ref (ad 0)), (1, .int x13), (2, .int x14)]) C 6 dX2_bestRule_81 rfl (by rw [ex31]; rfl) (by decide) rfl ?_
      refine b_goto (tgt := 42) C dX2_bestRule_84 (by decide) ?_
      exact b_sub [4, 5, 6, 1, 2, 0] rfl (hq42 _ _ _ _ _ _ h32)
    have h30 := ineg h25 c28; clear h25
    refine b_lload C 0 dX2_bestRule_66 rfl ?_
    refine b_lload C 5 dX2_bestRule_68 rfl ?_
    refine b_lc_ge (tgt := 81) C dX2_bestRule_70 dX2_bestRule_71 (by decide) (fun c33 => ?_) (fun c33 => ?_)
    · have h34 := ipos h30 c33; clear h30
      obtain ⟨x36, ex36, h37⟩ := lt1_inv h34; clear h34
      refine b_iinc (v := x36) (lv' := [(6, .int x36), (7, .long r27), (0, .ref (ad 0)), (1, .int x13), (2, .int x14), (3, .int x15), (4, .long x16)]) C 6 dX2_bestRule_81 rfl (by rw [ex36]; rfl) (by decide) rfl ?_
      refine b_goto (tgt := 42) C dX2_bestRule_84 (by decide) ?_
      exact b_sub [2, 3, 4, 5, 6, 0] rfl (hq42 _ _ _ _ _ _ h37)
    have h35 := ineg h30 c33; clear h30
    refine b_lload C 0 dX2_bestRule_74 rfl ?_
    refine b_lstore (lv' := [(4, .long r27), (7, .long r27), (0, .ref (ad 0)), (1, .int x13), (2, .int x14), (3, .int x15), (6, .int x17)]) C dX2_bestRule_76 (by decide) rfl ?_
    refine b_iload C 6 dX2_bestRule_78 rfl ?_
    refine b_istore_n (lv' := [(3, .int x17), (4, .long r27), (7, .long r27), (0, .ref (ad 0)), (1, .int x13), (2, .int x14), (6, .int x17)]) C dX2_bestRule_80 rfl (by decide) rfl ?_
    obtain ⟨x38, ex38, h39⟩ := lt1_inv h35; clear h35
    refine b_iinc (v := x38) (lv' := [(6, .int x38), (3, .int x17), (4, .long r27), (7, .long r27), (0, .ref (ad 0)), (1, .int x13), (2, .int x14)]) C 6 dX2_bestRule_81 rfl (by rw [ex38]; rfl) (by decide) rfl ?_
    refine b_goto (tgt := 42) C dX2_bestRule_84 (by decide) ?_
    exact b_sub [4, 5, 6, 1, 2, 0] rfl (hq42 _ _ _ _ _ _ h39)
theorem ctX2_bestRule {l : Launch} {ad : Nat → Nat} {ca : Nat → ClassId} {N : Nat} {σ : St} {a1 : Int32} {rf : Int32} {σf : St} (h : fX2_bestRule N σ a1 = some (rf, σf)) : Cw l yX2_bestRule cX2_bestRule 9 (some .int) rmX2_bestRule [.ref (ad 0), .int a1] (wX ad ca) (tyX ca) σ (some (.int rf)) σf := by
  refine Cw_of (by decide) (sameX ad ca) (Nat.le_of_ble_eq_true rfl) ?_
  intro p e s m args below meth c D A C X hr
  replace C : Cb p s m args meth c RX2 cX2_bestRule 9 := C
  have h2 := h; clear h
  refine b_sub (lv' := [(0, .ref (ad 0)), (1, .int a1)]) [0, 1] rfl ?_
  refine b_iload_n C 1 dX2_bestRule_0 rfl rfl ?_
  refine b_iconst (v := (1 : Int32)) C dX2_bestRule_1 (by decide) ?_
  refine b_bipush (v := (10 : Int32)) C dX2_bestRule_2 (by decide) ?_
  obtain ⟨r4, ec3, h3⟩ := bd0_inv h2; clear h2
  refine b_callSi (rest := []) C dX2_bestRule_4 (ctX2_isWithin ec3) mf_X2_isWithin ms_X2_isWithin kl_X2_49 rfl ⟨rfl, rfl⟩ ⟨Nat.le_of_ble_eq_true rfl, Nat.le_of_ble_eq_true rfl⟩ ⟨Nat.zero_le _, Nat.zero_le _⟩ rfl (Nat.le_of_ble_eq_true rfl) ?_
  refine b_if_ne (tgt := 14) C dX2_bestRule_7 (by decide) (fun c5 => ?_) (fun c5 => ?_)
  · have h6 := ineg h3 c5; clear h3
    refine b_aload_n C 0 dX2_bestRule_14 rfl rfl ?_
    refine gX2_72 C X dX2_bestRule_15 ?_
    refine b_iload_n C 1 dX2_bestRule_18 rfl rfl ?_
    refine b_iadd C dX2_bestRule_19 ?_
    refine b_bipush (v := (60 : Int32)) C dX2_bestRule_20 (by decide) ?_
    refine b_icmp_le (tgt := 29) C dX2_bestRule_22 (by decide) (fun c8 => ?_) (fun c8 => ?_)
    · have h9 := ipos h6 c8; clear h6
      refine b_aload_n C 0 dX2_bestRule_29 rfl rfl ?_
      refine gX2_98 C X dX2_bestRule_30 ?_
      obtain ⟨x11, ex11, h12⟩ := lt1_inv h9; clear h9
      refine b_nmI ex11 ?_
      refine b_istore_n (lv' := [(2, .int x11), (0, .ref (ad 0)), (1, .int a1)]) C dX2_bestRule_33 rfl (by decide) rfl ?_
      refine b_iconst (v := (0 : Int32)) C dX2_bestRule_34 (by decide) ?_
      refine b_istore_n (lv' := [(3, .int (0 : Int32)), (2, .int x11), (0, .ref (ad 0)), (1, .int a1)]) C dX2_bestRule_35 rfl (by decide) rfl ?_
      refine b_lconst (v := (0 : Int64)) C dX2_bestRule_36 (by decide) ?_
      refine b_lstore (lv' := [(4, .long (0 : Int64)), (3, .int (0 : Int32)), (2, .int x11), (0, .ref (ad 0)), (1, .int a1)]) C dX2_bestRule_37 (by decide) rfl ?_
      refine b_iconst (v := (0 : Int32)) C dX2_bestRule_39 (by decide) ?_
      refine b_istore (lv' := [(6, .int (0 : Int32)), (4, .long (0 : Int64)), (3, .int (0 : Int32)), (2, .int x11), (0, .ref (ad 0)), (1, .int a1)]) C dX2_bestRule_40 (by decide) rfl ?_
      refine b_sub [4, 5, 3, 2, 1, 0] rfl (wX2_bestRule_42 C X hr (fun σ42 x40 x41 h43 => ?_) _ _ _ _ _ _ _ h12)
      refine b_aload_n C 0 dX2_bestRule_87 rfl rfl ?_
      refine b_iload_n C 1 dX2_bestRule_88 rfl rfl ?_
      refine pX2_98 C X dX2_bestRule_89 ?_
      obtain ⟨σ44, eσ44, h45⟩ := lt1_inv h43; clear h43
      refine b_nmS eσ44 ?_
      refine b_iload_n C 2 dX2_bestRule_92 rfl rfl ?_
      obtain ⟨rfl, rfl⟩ := so2 h45
      exact b_iret C dX2_bestRule_93 hr
    have h10 := ineg h6 c8; clear h6
    refine b_sipush (v := (-1004 : Int32)) C dX2_bestRule_25 (by decide) ?_
    obtain ⟨rfl, rfl⟩ := so2 h10
    exact b_iret C dX2_bestRule_28 hr
  have h7 := ipos h3 c5; clear h3
  refine b_sipush (v := (-1002 : Int32)) C dX2_bestRule_10 (by decide) ?_
  obtain ⟨rfl, rfl⟩ := so2 h7
  exact b_iret C dX2_bestRule_13 hr
def rmX2_isWidthAtMost : Room := { frames := 2, cells := 0, slots := 0, locals := 58 }
def fX2_isWidthAtMost (N : Nat) (σ : St) (a1 : Int64) (a2 : Int64) : Option (Int32 × St) :=
  bd2 (fX2_widthAfter N σ (gI σ 3)) fun r6 σ5 =>
  if (a1 * ((gI σ5 2).toInt64)) < (r6 * a2) then (
  some ((0 : Int32), σ5))
  else (
  some ((1 : Int32), σ5))
theorem ctX2_isWidthAtMost {l : Launch} {ad : Nat → Nat} {ca : Nat → ClassId} {N : Nat} {σ : St} {a1 : Int64} {a2 : Int64} {rf : Int32} {σf : St} (h : fX2_isWidthAtMost N σ a1 a2 = some (rf, σf)) : Cw l yX2_isWidthAtMost cX2_isWidthAtMost 5 (some .boolean) rmX2_isWidthAtMost [.ref (ad 0), .long a1, .long a2] (wX ad ca) (tyX ca) σ (some (.int rf)) σf := by
  refine Cw_of (by decide) (sameX ad ca) (Nat.le_of_ble_eq_true rfl) ?_
  intro p e s m args below meth c D A C X hr
  replace C : Cb p s m args meth c RX2 cX2_isWidthAtMost 5 := C
  have h3 := h; clear h
  refine b_sub (lv' := [(0, .ref (ad 0)), (1, .long a1), (3, .long a2)]) [0, 1, 2] rfl ?_
  refine b_aload_n C 0 dX2_isWidthAtMost_0 rfl rfl ?_
  refine b_aload_n C 0 dX2_isWidthAtMost_1 rfl rfl ?_
  refine gX2_72 C X dX2_isWidthAtMost_2 ?_
  obtain ⟨r6, σ5, ec4, h4⟩ := bd2_inv h3; clear h3
  refine b_callWl (rest := []) C (sameX ad ca) X dX2_isWidthAtMost_5 (ctX2_widthAfter ec4) mf_X2_widthAfter mi_X2_widthAfter kl_X2_155 0 rfl rfl rfl rfl ⟨rfl, rfl⟩ ⟨Nat.le_of_ble_eq_true rfl, Nat.le_of_ble_eq_true rfl⟩ ⟨Nat.zero_le _, Nat.zero_le _⟩ rfl (Nat.le_of_ble_eq_true rfl) ?_
  refine b_lload_n C 2 dX2_isWidthAtMost_8 rfl rfl ?_
  refine b_lmul C dX2_isWidthAtMost_9 ?_
  refine b_lload_n C 1 dX2_isWidthAtMost_10 rfl rfl ?_
  refine b_aload_n C 0 dX2_isWidthAtMost_11 rfl rfl ?_
  refine gX2_83 C X dX2_isWidthAtMost_12 ?_
  refine b_i2l C dX2_isWidthAtMost_15 ?_
  refine b_lmul C dX2_isWidthAtMost_16 ?_
  refine b_lc_gt (tgt := 25) C dX2_isWidthAtMost_17 dX2_isWidthAtMost_18 (by decide) (fun c7 => ?_) (fun c7 => ?_)
  · have h8 := ipos h4 c7; clear h4
    refine b_iconst (v := (0 : Int32)) C dX2_isWidthAtMost_25 (by decide) ?_
    obtain ⟨rfl, rfl⟩ := so2 h8
    exact b_zret C dX2_isWidthAtMost_26 hr rfl
  have h9 := ineg h4 c7; clear h4
  refine b_iconst (v := (1 : Int32)) C dX2_isWidthAtMost_21 (by decide) ?_
  refine b_goto (tgt := 26) C dX2_isWidthAtMost_22 (by decide) ?_
  obtain ⟨rfl, rfl⟩ := so2 h9
  exact b_zret C dX2_isWidthAtMost_26 hr rfl
def rmX2_carryOutUntil : Room := { frames := 5, cells := 0, slots := 0, locals := 129 }
def fX2_carryOutUntil_3b (N : Nat) (q40 : St → Int32 → Int32 → Int32 → Option (Int32 × St)) (q3 : St → Int32 → Int32 → Int32 → Int32 → Option (Int32 × St)) (σ9 : St) (x5 : Int32) (x6 : Int32) (x7 : Int32) (x8 : Int32) : Option (Int32 × St) :=
  if x7 ≤ x8 then (
  q40 σ9 x5 x6 x8)
  else (
  if (60 : Int32) ≤ (gI σ9 3) then (
  q40 σ9 x5 x6 x8)
  else (
  bd2 (fX2_isWidthAtMost N σ9 (x5.toInt64) (x6.toInt64)) fun r19 σ18 =>
  if r19 = (0 : Int32) then (
  bd0 (fX2_carryOut N σ18 (1 : Int32)) fun σ24 =>
  lt1 (x8 + (1 : Int32)) fun x25 =>
  q3 σ24 x5 x6 x7 x25)
  else (
  q40 σ18 x5 x6 x8)))
def fX2_carryOutUntil_3 (N : Nat) (q40 : St → Int32 → Int32 → Int32 → Option (Int32 × St)) : Nat → St → Int32 → Int32 → Int32 → Int32 → Option (Int32 × St)
  | 0, _, _, _, _, _ => none
  | n + 1, σ, x5, x6, x7, x8 => fX2_carryOutUntil_3b N q40 (fX2_carryOutUntil_3 N q40 n) σ x5 x6 x7 x8
def fX2_carryOutUntil (N : Nat) (σ : St) (a1 : Int32) (a2 : Int32) (a3 : Int32) : Option (Int32 × St) :=
  fX2_carryOutUntil_3 N (fun σ30 x27 x28 x29 =>
 bd2 (fX2_isWidthAtMost N σ30 (x27.toInt64) (x28.toInt64)) fun r34 σ33 =>
  if r34 = (0 : Int32) then (
  some ((-1005 : Int32), σ33))
  else (
  some (x29, σ33))) N σ a1 a2 a3 (0 : Int32)
theorem wX2_carryOutUntil_3 {l : Launch} {p : Program} {e : Env} {s : State} {m : MethodId} {args : Array Value} {below : List Frame} {meth : Method} {c : Code} {D : va_G} {A : Nat → Prop} {ad : Nat → Nat} {ca : Nat → ClassId} {rf : Int32} {σf : St} (C : Cb p s m args meth c RX2 cX2_carryOutUntil 5) (X : Cx s D A (wX ad ca) (tyX ca)) (hr : meth.sig.returnType = (some .int)) {N : Nat} {q40 : St → Int32 → Int32 → Int32 → Option (Int32 × St)} (hq40 : ∀ (σ : St) (y0 : Int32) (y1 : Int32) (y2 : Int32), q40 σ y0 y1 y2 = some (rf, σf) → bW p l e rmX2_carryOutUntil s m args below meth c 0 0 (MQ below (Qw D (wX ad ca) σf (some (.int rf)) A) args s 0 0 A) 5 (wd D A (wX ad ca) s σ) 40 [(0, .ref (ad 0)), (1, .int y0), (2, .int y1), (4, .int y2)] []) : ∀ n : Nat, ∀ (σ : St) (y0 : Int32) (y1 : Int32) (y2 : Int32) (y3 : Int32), fX2_carryOutUntil_3 N q40 n σ y0 y1 y2 y3 = some (rf, σf) → bW p l e rmX2_carryOutUntil s m args below meth c 0 0 (MQ below (Qw D (wX ad ca) σf (some (.int rf)) A) args s 0 0 A) 5 (wd D A (wX ad ca) s σ) 3 [(0, .ref (ad 0)), (1, .int y0), (2, .int y1), (3, .int y2), (4, .int y3)] [] := by
  intro n
  induction n with
  | zero => intro σ9 x5 x6 x7 x8 h10; exact nn h10
  | succ n hq3 =>
    intro σ9 x5 x6 x7 x8 h10
    replace h10 : fX2_carryOutUntil_3b N q40 (fX2_carryOutUntil_3 N q40 n) σ9 x5 x6 x7 x8 = some (rf, σf) := h10
    refine b_iload C 4 dX2_carryOutUntil_3 rfl ?_
    refine b_iload_n C 3 dX2_carryOutUntil_5 rfl rfl ?_
    refine b_icmp_ge (tgt := 40) C dX2_carryOutUntil_6 (by decide) (fun c11 => ?_) (fun c11 => ?_)
    · have h12 := ipos h10 c11; clear h10
      exact b_sub [0, 1, 2, 4] rfl (hq40 _ _ _ _ h12)
    have h13 := ineg h10 c11; clear h10
    refine b_aload_n C 0 dX2_carryOutUntil_9 rfl rfl ?_
    refine gX2_72 C X dX2_carryOutUntil_10 ?_
    refine b_bipush (v := (60 : Int32)) C dX2_carryOutUntil_13 (by decide) ?_
    refine b_icmp_ge (tgt := 40) C dX2_carryOutUntil_15 (by decide) (fun c14 => ?_) (fun c14 => ?_)
    · have h15 := ipos h13 c14; clear h13
      exact b_sub [0, 1, 2, 4] rfl (hq40 _ _ _ _ h15)
    have h16 := ineg h13 c14; clear h13
    refine b_aload_n C 0 dX2_carryOutUntil_18 rfl rfl ?_
    refine b_iload_n C 1 dX2_carryOutUntil_19 rfl rfl ?_
    refine b_i2l C dX2_carryOutUntil_20 ?_
    refine b_iload_n C 2 dX2_carryOutUntil_21 rfl rfl ?_
    refine b_i2l C dX2_carryOutUntil_22 ?_
    obtain ⟨r19, σ18, ec17, h17⟩ := bd2_inv h16; clear h16
    refine b_callWi (rest := []) C (sameX ad ca) X dX2_carryOutUntil_23 (ctX2_isWidthAtMost ec17) mf_X2_isWidthAtMost mi_X2_isWidthAtMost kl_X2_243 0 rfl rfl rfl rfl ⟨rfl, rfl⟩ ⟨Nat.le_of_ble_eq_true rfl, Nat.le_of_ble_eq_true rfl⟩ ⟨Nat.zero_le _, Nat.zero_le _⟩ rfl (Nat.le_of_ble_eq_true rfl) ?_
    refine b_if_ne (tgt := 40) C dX2_carryOutUntil_26 (by decide) (fun c20 => ?_) (fun c20 => ?_)
    · have h21 := ineg h17 c20; clear h17
      exact b_sub [0, 1, 2, 4] rfl (hq40 _ _ _ _ h21)
    have h22 := ipos h17 c20; clear h17
    refine b_aload_n C 0 dX2_carryOutUntil_29 rfl rfl ?_
    refine b_iconst (v := (1 : Int32)) C dX2_carryOutUntil_30 (by decide) ?_
    obtain ⟨σ24, ec23, h23⟩ := bd0_inv h22; clear h22
    refine b_callWv (rest := []) C (sameX ad ca) X dX2_carryOutUntil_31 (ctX2_carryOut ec23) mf_X2_carryOut mi_X2_carryOut kl_X2_114 0 rfl rfl rfl rfl ⟨rfl, rfl⟩ ⟨Nat.le_of_ble_eq_true rfl, Nat.le_of_ble_eq_true rfl⟩ ⟨Nat.zero_le _, Nat.zero_le _⟩ rfl (Nat.le_of_ble_eq_true rfl) ?_
    obtain ⟨x25, ex25, h26⟩ := lt1_inv h23; clear h23
    refine b_iinc (v := x25) (lv' := [(4, .int x25), (0, .ref (ad 0)), (1, .int x5), (2, .int x6), (3, .int x7)]) C 4 dX2_carryOutUntil_34 rfl (by rw [ex25]; rfl) (by decide) rfl ?_
    refine b_goto (tgt := 3) C dX2_carryOutUntil_37 (by decide) ?_
    exact b_sub [1, 2, 3, 4, 0] rfl (hq3 _ _ _ _ _ h26)
theorem ctX2_carryOutUntil {l : Launch} {ad : Nat → Nat} {ca : Nat → ClassId} {N : Nat} {σ : St} {a1 : Int32} {a2 : Int32} {a3 : Int32} {rf : Int32} {σf : St} (h : fX2_carryOutUntil N σ a1 a2 a3 = some (rf, σf)) : Cw l yX2_carryOutUntil cX2_carryOutUntil 5 (some .int) rmX2_carryOutUntil [.ref (ad 0), .int a1, .int a2, .int a3] (wX ad ca) (tyX ca) σ (some (.int rf)) σf := by
  refine Cw_of (by decide) (sameX ad ca) (Nat.le_of_ble_eq_true rfl) ?_
  intro p e s m args below meth c D A C X hr
  replace C : Cb p s m args meth c RX2 cX2_carryOutUntil 5 := C
  have h4 := h; clear h
  refine b_sub (lv' := [(0, .ref (ad 0)), (1, .int a1), (2, .int a2), (3, .int a3)]) [0, 1, 2, 3] rfl ?_
  refine b_iconst (v := (0 : Int32)) C dX2_carryOutUntil_0 (by decide) ?_
  refine b_istore (lv' := [(4, .int (0 : Int32)), (0, .ref (ad 0)), (1, .int a1), (2, .int a2), (3, .int a3)]) C dX2_carryOutUntil_1 (by decide) rfl ?_
  refine b_sub [1, 2, 3, 4, 0] rfl (wX2_carryOutUntil_3 C X hr (fun σ30 x27 x28 x29 h31 => ?_) _ _ _ _ _ _ h4)
  refine b_aload_n C 0 dX2_carryOutUntil_40 rfl rfl ?_
  refine b_iload_n C 1 dX2_carryOutUntil_41 rfl rfl ?_
  refine b_i2l C dX2_carryOutUntil_42 ?_
  refine b_iload_n C 2 dX2_carryOutUntil_43 rfl rfl ?_
  refine b_i2l C dX2_carryOutUntil_44 ?_
  obtain ⟨r34, σ33, ec32, h32⟩ := bd2_inv h31; clear h31
  refine b_callWi (rest := []) C (sameX ad ca) X dX2_carryOutUntil_45 (ctX2_isWidthAtMost ec32) mf_X2_isWidthAtMost mi_X2_isWidthAtMost kl_X2_243 0 rfl rfl rfl rfl ⟨rfl, rfl⟩ ⟨Nat.le_of_ble_eq_true rfl, Nat.le_of_ble_eq_true rfl⟩ ⟨Nat.zero_le _, Nat.zero_le _⟩ rfl (Nat.le_of_ble_eq_true rfl) ?_
  refine b_if_eq (tgt := 56) C dX2_carryOutUntil_48 (by decide) (fun c35 => ?_) (fun c35 => ?_)
  · have h36 := ipos h32 c35; clear h32
    refine b_sipush (v := (-1005 : Int32)) C dX2_carryOutUntil_56 (by decide) ?_
    obtain ⟨rfl, rfl⟩ := so2 h36
    exact b_iret C dX2_carryOutUntil_59 hr
  have h37 := ineg h32 c35; clear h32
  refine b_iload C 3 dX2_carryOutUntil_51 rfl ?_
  refine b_goto (tgt := 59) C dX2_carryOutUntil_53 (by decide) ?_
  obtain ⟨rfl, rfl⟩ := so2 h37
  exact b_iret C dX2_carryOutUntil_59 hr
def rmX2_isWidthGoal : Room := { frames := 1, cells := 0, slots := 0, locals := 22 }
def fX2_isWidthGoal (a1 : Int32) (a2 : Int32) (a3 : Int32) : Option Int32 :=
  bd0 (fX2_isWithin a1 (0 : Int32) (1000 : Int32)) fun r6 =>
  if r6 = (0 : Int32) then (
  some (0 : Int32))
  else (
  bd0 (fX2_isWithin a2 (1 : Int32) (1000 : Int32)) fun r11 =>
  if r11 = (0 : Int32) then (
  some (0 : Int32))
  else (
  bd0 (fX2_isWithin a3 (0 : Int32) (60 : Int32)) fun r16 =>
  if r16 = (0 : Int32) then (
  some (0 : Int32))
  else (
  some (1 : Int32))))
theorem ctX2_isWidthGoal {l : Launch} {a1 : Int32} {a2 : Int32} {a3 : Int32} {rf : Int32} (h : fX2_isWidthGoal a1 a2 a3 = some rf) : Cs l yX2_isWidthGoal cX2_isWidthGoal 3 (some .boolean) rmX2_isWidthGoal [.int a1, .int a2, .int a3] (some (.int rf)) := by
  refine Cs_of (by decide +kernel) (Nat.le_of_ble_eq_true rfl) ?_
  intro p e s m args below meth c C hr
  replace C : Cb p s m args meth c RX2 cX2_isWidthGoal 3 := C
  have h4 := h; clear h
  refine b_sub (lv' := [(0, .int a1), (1, .int a2), (2, .int a3)]) [0, 1, 2] rfl ?_
  refine b_iload_n C 0 dX2_isWidthGoal_0 rfl rfl ?_
  refine b_iconst (v := (0 : Int32)) C dX2_isWidthGoal_1 (by decide) ?_
  refine b_sipush (v := (1000 : Int32)) C dX2_isWidthGoal_2 (by decide) ?_
  obtain ⟨r6, ec5, h5⟩ := bd0_inv h4; clear h4
  refine b_callSi (rest := []) C dX2_isWidthGoal_5 (ctX2_isWithin ec5) mf_X2_isWithin ms_X2_isWithin kl_X2_49 rfl ⟨rfl, rfl⟩ ⟨Nat.le_of_ble_eq_true rfl, Nat.le_of_ble_eq_true rfl⟩ ⟨Nat.zero_le _, Nat.zero_le _⟩ rfl (Nat.le_of_ble_eq_true rfl) ?_
  refine b_if_eq (tgt := 36) C dX2_isWidthGoal_8 (by decide) (fun c7 => ?_) (fun c7 => ?_)
  · have h8 := ipos h5 c7; clear h5
    refine b_iconst (v := (0 : Int32)) C dX2_isWidthGoal_36 (by decide) ?_
    obtain rfl := so1 h8
    exact s_zret C dX2_isWidthGoal_37 hr rfl
  have h9 := ineg h5 c7; clear h5
  refine b_iload_n C 1 dX2_isWidthGoal_11 rfl rfl ?_
  refine b_iconst (v := (1 : Int32)) C dX2_isWidthGoal_12 (by decide) ?_
  refine b_sipush (v := (1000 : Int32)) C dX2_isWidthGoal_13 (by decide) ?_
  obtain ⟨r11, ec10, h10⟩ := bd0_inv h9; clear h9
  refine b_callSi (rest := []) C dX2_isWidthGoal_16 (ctX2_isWithin ec10) mf_X2_isWithin ms_X2_isWithin kl_X2_49 rfl ⟨rfl, rfl⟩ ⟨Nat.le_of_ble_eq_true rfl, Nat.le_of_ble_eq_true rfl⟩ ⟨Nat.zero_le _, Nat.zero_le _⟩ rfl (Nat.le_of_ble_eq_true rfl) ?_
  refine b_if_eq (tgt := 36) C dX2_isWidthGoal_19 (by decide) (fun c12 => ?_) (fun c12 => ?_)
  · have h13 := ipos h10 c12; clear h10
    refine b_iconst (v := (0 : Int32)) C dX2_isWidthGoal_36 (by decide) ?_
    obtain rfl := so1 h13
    exact s_zret C dX2_isWidthGoal_37 hr rfl
  have h14 := ineg h10 c12; clear h10
  refine b_iload_n C 2 dX2_isWidthGoal_22 rfl rfl ?_
  refine b_iconst (v := (0 : Int32)) C dX2_isWidthGoal_23 (by decide) ?_
  refine b_bipush (v := (60 : Int32)) C dX2_isWidthGoal_24 (by decide) ?_
  obtain ⟨r16, ec15, h15⟩ := bd0_inv h14; clear h14
  refine b_callSi (rest := []) C dX2_isWidthGoal_26 (ctX2_isWithin ec15) mf_X2_isWithin ms_X2_isWithin kl_X2_49 rfl ⟨rfl, rfl⟩ ⟨Nat.le_of_ble_eq_true rfl, Nat.le_of_ble_eq_true rfl⟩ ⟨Nat.zero_le _, Nat.zero_le _⟩ rfl (Nat.le_of_ble_eq_true rfl) ?_
  refine b_if_eq (tgt := 36) C dX2_isWidthGoal_29 (by decide) (fun c17 => ?_) (fun c17 => ?_)
  · have h18 := ipos h15 c17; clear h15
    refine b_iconst (v := (0 : Int32)) C dX2_isWidthGoal_36 (by decide) ?_
    obtain rfl := so1 h18
    exact s_zret C dX2_isWidthGoal_37 hr rfl
  have h19 := ineg h15 c17; clear h15
  refine b_iconst (v := (1 : Int32)) C dX2_isWidthGoal_32 (by decide) ?_
  refine b_goto (tgt := 37) C dX2_isWidthGoal_33 (by decide) ?_
  obtain rfl := so1 h19
  exact s_zret C dX2_isWidthGoal_37 hr rfl
