def rmX0_end : Room := { frames := 0, cells := 0, slots := 0, locals := 0 }
def fX0_end (σ : St) (b : Nat) (a1 : Int32) (a2 : Int32) (a3 : Int32) : Option (Int64 × St) :=
  if isT b = false then none else
  lt1 ((a1 * (10 : Int32)) + a2) fun x6 =>
  if x6 < (0 : Int32) then (
  some ((0 : Int64), σ))
  else (
  if isL (b + 1) = false then none else
  if (Int32.ofNat (ln (b + 1))) ≤ x6 then (
  some ((0 : Int64), σ))
  else (
  if isL (b + 2) = false then none else
  if x6 < (Int32.ofNat (ln (b + 2))) then (
  if a3 = (0 : Int32) then (
  if (x6 < 0 ∨ ln (b + 1) ≤ (x6).toNatClampNeg) then none else
  some ((gG σ (la (b + 1)) (x6).toNatClampNeg), σ))
  else (
  if (x6 < 0 ∨ ln (b + 2) ≤ (x6).toNatClampNeg) then none else
  some ((gG σ (la (b + 2)) (x6).toNatClampNeg), σ)))
  else (
  some ((0 : Int64), σ))))
theorem ctX0_end {l : Launch} {ad : Nat → Nat} {ca : Nat → ClassId} {σ : St} {b : Nat} {a1 : Int32} {a2 : Int32} {a3 : Int32} {rf : Int64} {σf : St} (h : fX0_end σ b a1 a2 a3 = some (rf, σf)) : Cw l yX0_end cX0_end 5 (some .long) rmX0_end [.ref (ad b), .int a1, .int a2, .int a3] (wX ad ca) (tyX ca) σ (some (.long rf)) σf := by
  obtain ⟨hb0, h5⟩ := gdn h; clear h
  have hb : isT b = true := nb hb0
  refine Cw_of (by decide) (sameX ad ca) (Nat.le_of_ble_eq_true rfl) ?_
  intro p e s m args below meth c D A C X hr
  replace C : Cb p s m args meth c RX0 cX0_end 5 := C
  refine b_sub (lv' := [(0, .ref (ad b)), (1, .int a1), (2, .int a2), (3, .int a3)]) [0, 1, 2, 3] rfl ?_
  refine b_iload_n C 1 dX0_end_0 rfl rfl ?_
  refine b_aload_n C 0 dX0_end_1 rfl rfl ?_
  refine gX0_7 C X hb dX0_end_2 ?_
  refine b_imul C dX0_end_5 ?_
  refine b_iload_n C 2 dX0_end_6 rfl rfl ?_
  refine b_iadd C dX0_end_7 ?_
  obtain ⟨x6, ex6, h7⟩ := lt1_inv h5; clear h5
  refine b_nmI ex6 ?_
  refine b_istore (lv' := [(4, .int x6), (0, .ref (ad b)), (1, .int a1), (2, .int a2), (3, .int a3)]) C dX0_end_8 (by decide) rfl ?_
  refine b_iload C 0 dX0_end_10 rfl ?_
  refine b_if_lt (tgt := 35) C dX0_end_12 (by decide) (fun c8 => ?_) (fun c8 => ?_)
  · have h9 := ipos h7 c8; clear h7
    refine b_lconst (v := (0 : Int64)) C dX0_end_35 (by decide) ?_
    obtain ⟨rfl, rfl⟩ := so2 h9
    exact b_lret C dX0_end_36 hr
  have h10 := ineg h7 c8; clear h7
  refine b_iload C 0 dX0_end_15 rfl ?_
  refine b_aload_n C 1 dX0_end_17 rfl rfl ?_
  refine gX0_13 C X hb dX0_end_18 ?_
  obtain ⟨g12, h11⟩ := gdn h10; clear h10
  refine nX_t C X (nb g12) dX0_end_21 ?_
  refine b_icmp_ge (tgt := 35) C dX0_end_22 (by decide) (fun c13 => ?_) (fun c13 => ?_)
  · have h14 := ipos h11 c13; clear h11
    refine b_lconst (v := (0 : Int64)) C dX0_end_35 (by decide) ?_
    obtain ⟨rfl, rfl⟩ := so2 h14
    exact b_lret C dX0_end_36 hr
  have h15 := ineg h11 c13; clear h11
  refine b_iload C 0 dX0_end_25 rfl ?_
  refine b_aload_n C 1 dX0_end_27 rfl rfl ?_
  refine gX0_17 C X hb dX0_end_28 ?_
  obtain ⟨g17, h16⟩ := gdn h15; clear h15
  refine nX_t C X (nb g17) dX0_end_31 ?_
  refine b_icmp_lt (tgt := 37) C dX0_end_32 (by decide) (fun c18 => ?_) (fun c18 => ?_)
  · have h19 := ipos h16 c18; clear h16
    refine b_iload_n C 4 dX0_end_37 rfl rfl ?_
    refine b_if_eq (tgt := 51) C dX0_end_38 (by decide) (fun c21 => ?_) (fun c21 => ?_)
    · have h22 := ipos h19 c21; clear h19
      refine b_aload_n C 1 dX0_end_51 rfl rfl ?_
      refine gX0_13 C X hb dX0_end_52 ?_
      refine b_iload C 0 dX0_end_55 rfl ?_
      obtain ⟨g25, h24⟩ := gdn h22; clear h22
      refine lX_t C X (nb g12) g25 dX0_end_57 ?_
      obtain ⟨rfl, rfl⟩ := so2 h24
      exact b_lret C dX0_end_58 hr
    have h23 := ineg h19 c21; clear h19
    refine b_aload_n C 1 dX0_end_41 rfl rfl ?_
    refine gX0_17 C X hb dX0_end_42 ?_
    refine b_iload C 0 dX0_end_45 rfl ?_
    obtain ⟨g27, h26⟩ := gdn h23; clear h23
    refine lX_t C X (nb g17) g27 dX0_end_47 ?_
    refine b_goto (tgt := 58) C dX0_end_48 (by decide) ?_
    obtain ⟨rfl, rfl⟩ := so2 h26
    exact b_lret C dX0_end_58 hr
  have h20 := ineg h16 c18; clear h16
  refine b_lconst (v := (0 : Int64)) C dX0_end_35 (by decide) ?_
  obtain ⟨rfl, rfl⟩ := so2 h20
  exact b_lret C dX0_end_36 hr
def rmX0_put : Room := { frames := 0, cells := 0, slots := 0, locals := 0 }
def fX0_put (σ : St) (b : Nat) (a1 : Int32) (a2 : Int32) (a3 : Int64) (a4 : Int64) : Option St :=
  if isT b = false then none else
  lt1 ((a1 * (10 : Int32)) + a2) fun x7 =>
  if x7 < (0 : Int32) then (
  some σ)
  else (
  if isL (b + 1) = false then none else
  if (Int32.ofNat (ln (b + 1))) ≤ x7 then (
  some σ)
  else (
  if isL (b + 2) = false then none else
  if x7 < (Int32.ofNat (ln (b + 2))) then (
  if (x7 < 0 ∨ ln (b + 1) ≤ (x7).toNatClampNeg) then none else
  lt1 (sG σ (la (b + 1)) (vp_updL (gG σ (la (b + 1))) (x7).toNatClampNeg a3)) fun σ24 =>
  if (x7 < 0 ∨ ln (b + 2) ≤ (x7).toNatClampNeg) then none else
  lt1 (sG σ24 (la (b + 2)) (vp_updL (gG σ24 (la (b + 2))) (x7).toNatClampNeg a4)) fun σ28 =>
  some σ28)
  else (
  some σ)))
theorem ctX0_put {l : Launch} {ad : Nat → Nat} {ca : Nat → ClassId} {σ : St} {b : Nat} {a1 : Int32} {a2 : Int32} {a3 : Int64} {a4 : Int64} {σf : St} (h : fX0_put σ b a1 a2 a3 a4 = some σf) : Cw l yX0_put cX0_put 8 none rmX0_put [.ref (ad b), .int a1, .int a2, .long a3, .long a4] (wX ad ca) (tyX ca) σ none σf := by
  obtain ⟨hb0, h6⟩ := gdn h; clear h
  have hb : isT b = true := nb hb0
  refine Cw_of (by decide) (sameX ad ca) (Nat.le_of_ble_eq_true rfl) ?_
  intro p e s m args below meth c D A C X hr
  replace C : Cb p s m args meth c RX0 cX0_put 8 := C
  refine b_sub (lv' := [(0, .ref (ad b)), (1, .int a1), (2, .int a2), (3, .long a3), (5, .long a4)]) [0, 1, 2, 3, 4] rfl ?_
  refine b_iload_n C 1 dX0_put_0 rfl rfl ?_
  refine b_aload_n C 0 dX0_put_1 rfl rfl ?_
  refine gX0_7 C X hb dX0_put_2 ?_
  refine b_imul C dX0_put_5 ?_
  refine b_iload_n C 2 dX0_put_6 rfl rfl ?_
  refine b_iadd C dX0_put_7 ?_
  obtain ⟨x7, ex7, h8⟩ := lt1_inv h6; clear h6
  refine b_nmI ex7 ?_
  refine b_istore (lv' := [(7, .int x7), (0, .ref (ad b)), (1, .int a1), (2, .int a2), (3, .long a3), (5, .long a4)]) C dX0_put_8 (by decide) rfl ?_
  refine b_iload C 0 dX0_put_10 rfl ?_
  refine b_if_lt (tgt := 35) C dX0_put_12 (by decide) (fun c9 => ?_) (fun c9 => ?_)
  · have h10 := ipos h8 c9; clear h8
    obtain rfl := so1 h10
    exact b_vret C dX0_put_35 hr
  have h11 := ineg h8 c9; clear h8
  refine b_iload C 0 dX0_put_15 rfl ?_
  refine b_aload_n C 1 dX0_put_17 rfl rfl ?_
  refine gX0_13 C X hb dX0_put_18 ?_
  obtain ⟨g13, h12⟩ := gdn h11; clear h11
  refine nX_t C X (nb g13) dX0_put_21 ?_
  refine b_icmp_ge (tgt := 35) C dX0_put_22 (by decide) (fun c14 => ?_) (fun c14 => ?_)
  · have h15 := ipos h12 c14; clear h12
    obtain rfl := so1 h15
    exact b_vret C dX0_put_35 hr
  have h16 := ineg h12 c14; clear h12
  refine b_iload C 0 dX0_put_25 rfl ?_
  refine b_aload_n C 1 dX0_put_27 rfl rfl ?_
  refine gX0_17 C X hb dX0_put_28 ?_
  obtain ⟨g18, h17⟩ := gdn h16; clear h16
  refine nX_t C X (nb g18) dX0_put_31 ?_
  refine b_icmp_lt (tgt := 36) C dX0_put_32 (by decide) (fun c19 => ?_) (fun c19 => ?_)
  · have h20 := ipos h17 c19; clear h17
    refine b_aload_n C 1 dX0_put_36 rfl rfl ?_
    refine gX0_13 C X hb dX0_put_37 ?_
    refine b_iload C 0 dX0_put_40 rfl ?_
    refine b_lload_n C 4 dX0_put_42 rfl rfl ?_
    obtain ⟨g23, h22⟩ := gdn h20; clear h20
    refine aX_t C X (nb g13) g23 dX0_put_43 ?_
    obtain ⟨σ24, eσ24, h25⟩ := lt1_inv h22; clear h22
    refine b_nmS eσ24 ?_
    refine b_aload_n C 1 dX0_put_44 rfl rfl ?_
    refine gX0_17 C X hb dX0_put_45 ?_
    refine b_iload C 0 dX0_put_48 rfl ?_
    refine b_lload C 5 dX0_put_50 rfl ?_
    obtain ⟨g27, h26⟩ := gdn h25; clear h25
    refine aX_t C X (nb g18) g27 dX0_put_52 ?_
    obtain ⟨σ28, eσ28, h29⟩ := lt1_inv h26; clear h26
    refine b_nmS eσ28 ?_
    obtain rfl := so1 h29
    exact b_vret C dX0_put_53 hr
  have h21 := ineg h17 c19; clear h17
  obtain rfl := so1 h21
  exact b_vret C dX0_put_35 hr
def rmX0_extremeEnd : Room := { frames := 0, cells := 0, slots := 0, locals := 0 }
def fX0_extremeEnd_121 (N : Nat) (b : Nat) (q26 : St → Int32 → Int32 → Int32 → Nat → Int64 → Int32 → Int32 → Option (Int64 × St)) (σ78 : St) (x69 : Int32) (x70 : Int32) (x71 : Int32) (x72 : Nat) (x73 : Int64) (x74 : Int32) (x75 : Int32) (x76 : Int32) (x77 : Int32) : Option (Int64 × St) :=
  if x74 = (0 : Int32) then (
  if isL x72 = false then none else
  if (x76 < 0 ∨ ln x72 ≤ (x76).toNatClampNeg) then none else
  lt1 (gG σ78 (la x72) (x76).toNatClampNeg) fun x87 =>
  lt1 (x75 + (1 : Int32)) fun x89 =>
  q26 σ78 x69 x70 x71 x72 x87 (1 : Int32) x89)
  else (
  if x77 = (0 : Int32) then (
  lt1 (x75 + (1 : Int32)) fun x94 =>
  q26 σ78 x69 x70 x71 x72 x73 (1 : Int32) x94)
  else (
  if isL x72 = false then none else
  if (x76 < 0 ∨ ln x72 ≤ (x76).toNatClampNeg) then none else
  lt1 (gG σ78 (la x72) (x76).toNatClampNeg) fun x100 =>
  lt1 (x75 + (1 : Int32)) fun x102 =>
  q26 σ78 x69 x70 x71 x72 x100 (1 : Int32) x102))
def fX0_extremeEnd_61 (N : Nat) (b : Nat) (q26 : St → Int32 → Int32 → Int32 → Nat → Int64 → Int32 → Int32 → Option (Int64 × St)) (σ42 : St) (x33 : Int32) (x34 : Int32) (x35 : Int32) (x36 : Nat) (x37 : Int64) (x38 : Int32) (x39 : Int32) (x40 : Int32) (x41 : Int32) : Option (Int64 × St) :=
  if x41 = (0 : Int32) then (
  lt1 (x39 + (1 : Int32)) fun x47 =>
  q26 σ42 x33 x34 x35 x36 x37 x38 x47)
  else (
  if x40 < (0 : Int32) then (
  lt1 (x39 + (1 : Int32)) fun x52 =>
  q26 σ42 x33 x34 x35 x36 x37 x38 x52)
  else (
  if isL x36 = false then none else
  if (Int32.ofNat (ln x36)) ≤ x40 then (
  lt1 (x39 + (1 : Int32)) fun x59 =>
  q26 σ42 x33 x34 x35 x36 x37 x38 x59)
  else (
  if x35 = (0 : Int32) then (
  if (x40 < 0 ∨ ln x36 ≤ (x40).toNatClampNeg) then none else
  if x37 ≤ (gG σ42 (la x36) (x40).toNatClampNeg) then (
  fX0_extremeEnd_121 N b q26 σ42 x33 x34 x35 x36 x37 x38 x39 x40 (0 : Int32))
  else (
  fX0_extremeEnd_121 N b q26 σ42 x33 x34 x35 x36 x37 x38 x39 x40 (1 : Int32)))
  else (
  if (x40 < 0 ∨ ln x36 ≤ (x40).toNatClampNeg) then none else
  if (gG σ42 (la x36) (x40).toNatClampNeg) ≤ x37 then (
  fX0_extremeEnd_121 N b q26 σ42 x33 x34 x35 x36 x37 x38 x39 x40 (0 : Int32))
  else (
  fX0_extremeEnd_121 N b q26 σ42 x33 x34 x35 x36 x37 x38 x39 x40 (1 : Int32))))))
def fX0_extremeEnd_26b (N : Nat) (b : Nat) (q154 : St → Int64 → Option (Int64 × St)) (q26 : St → Int32 → Int32 → Int32 → Nat → Int64 → Int32 → Int32 → Option (Int64 × St)) (σ23 : St) (x16 : Int32) (x17 : Int32) (x18 : Int32) (x19 : Nat) (x20 : Int64) (x21 : Int32) (x22 : Int32) : Option (Int64 × St) :=
  if (10 : Int32) ≤ x22 then (
  q154 σ23 x20)
  else (
  lt1 ((x16 * (10 : Int32)) + x22) fun x28 =>
  if ((x17 >>> (x22 &&& 31)) &&& (1 : Int32)) = (1 : Int32) then (
  fX0_extremeEnd_61 N b q26 σ23 x16 x17 x18 x19 x20 x21 x22 x28 (1 : Int32))
  else (
  fX0_extremeEnd_61 N b q26 σ23 x16 x17 x18 x19 x20 x21 x22 x28 (0 : Int32)))
def fX0_extremeEnd_26 (N : Nat) (b : Nat) (q154 : St → Int64 → Option (Int64 × St)) : Nat → St → Int32 → Int32 → Int32 → Nat → Int64 → Int32 → Int32 → Option (Int64 × St)
  | 0, _, _, _, _, _, _, _, _ => none
  | n + 1, σ, x16, x17, x18, x19, x20, x21, x22 => fX0_extremeEnd_26b N b q154 (fX0_extremeEnd_26 N b q154 n) σ x16 x17 x18 x19 x20 x21 x22
def fX0_extremeEnd_15 (N : Nat) (b : Nat) (σ14 : St) (x10 : Int32) (x11 : Int32) (x12 : Int32) (x13 : Nat) : Option (Int64 × St) :=
  fX0_extremeEnd_26 N b (fun σ110 x109 =>
 some (x109, σ110)) N σ14 x10 x11 x12 x13 (0 : Int64) (0 : Int32) (0 : Int32)
def fX0_extremeEnd (N : Nat) (σ : St) (b : Nat) (a1 : Int32) (a2 : Int32) (a3 : Int32) (a4 : Int32) : Option (Int64 × St) :=
  if isT b = false then none else
  if a3 = (0 : Int32) then (
  fX0_extremeEnd_15 N b σ a1 a2 a4 (b + 1))
  else (
  fX0_extremeEnd_15 N b σ a1 a2 a4 (b + 2))
theorem wX0_extremeEnd_121 {l : Launch} {p : Program} {e : Env} {s : State} {m : MethodId} {args : Array Value} {below : List Frame} {meth : Method} {c : Code} {D : va_G} {A : Nat → Prop} {ad : Nat → Nat} {ca : Nat → ClassId} {rf : Int64} {σf : St} (C : Cb p s m args meth c RX0 cX0_extremeEnd 13) (X : Cx s D A (wX ad ca) (tyX ca)) (hr : meth.sig.returnType = (some .long)) {b : Nat} (hb : isT b = true) {N : Nat} {q26 : St → Int32 → Int32 → Int32 → Nat → Int64 → Int32 → Int32 → Option (Int64 × St)} (hq26 : ∀ (σ : St) (y0 : Int32) (y1 : Int32) (y2 : Int32) (y3 : Nat) (y4 : Int64) (y5 : Int32) (y6 : Int32), q26 σ y0 y1 y2 y3 y4 y5 y6 = some (rf, σf) → bW p l e rmX0_extremeEnd s m args below meth c 0 0 (MQ below (Qw D (wX ad ca) σf (some (.long rf)) A) args s 0 0 A) 13 (wd D A (wX ad ca) s σ) 26 [(0, .ref (ad b)), (1, .int y0), (2, .int y1), (4, .int y2), (5, .ref (ad y3)), (6, .long y4), (8, .int y5), (9, .int y6)] []) : ∀ (σ : St) (y0 : Int32) (y1 : Int32) (y2 : Int32) (y3 : Nat) (y4 : Int64) (y5 : Int32) (y6 : Int32) (y7 : Int32) (y8 : Int32), fX0_extremeEnd_121 N b q26 σ y0 y1 y2 y3 y4 y5 y6 y7 y8 = some (rf, σf) → bW p l e rmX0_extremeEnd s m args below meth c 0 0 (MQ below (Qw D (wX ad ca) σf (some (.long rf)) A) args s 0 0 A) 13 (wd D A (wX ad ca) s σ) 121 [(0, .ref (ad b)), (1, .int y0), (2, .int y1), (4, .int y2), (5, .ref (ad y3)), (6, .long y4), (8, .int y5), (9, .int y6), (10, .int y7)] [.int y8] := by
  intro σ78 x69 x70 x71 x72 x73 x74 x75 x76 x77 h79
  refine b_istore (lv' := [(12, .int x77), (0, .ref (ad b)), (1, .int x69), (2, .int x70), (4, .int x71), (5, .ref (ad x72)), (6, .long x73), (8, .int x74), (9, .int x75), (10, .int x76)]) C dX0_extremeEnd_121 (by decide) rfl ?_
  refine b_iload C 7 dX0_extremeEnd_123 rfl ?_
  refine b_if_eq (tgt := 133) C dX0_extremeEnd_125 (by decide) (fun c80 => ?_) (fun c80 => ?_)
  · have h81 := ipos h79 c80; clear h79
    refine b_aload C 5 dX0_extremeEnd_133 rfl ?_
    refine b_iload C 9 dX0_extremeEnd_135 rfl ?_
    obtain ⟨g84, h83⟩ := gdn h81; clear h81
    obtain ⟨g86, h85⟩ := gdn h83; clear h83
    refine lX_t C X (nb g84) g86 dX0_extremeEnd_137 ?_
    refine b_goto (tgt := 143) C dX0_extremeEnd_138 (by decide) ?_
    obtain ⟨x87, ex87, h88⟩ := lt1_inv h85; clear h85
    refine b_nmJ ex87 ?_
    refine b_lstore (lv' := [(6, .long x87), (12, .int x77), (0, .ref (ad b)), (1, .int x69), (2, .int x70), (4, .int x71), (5, .ref (ad x72)), (8, .int x74), (9, .int x75), (10, .int x76)]) C dX0_extremeEnd_143 (by decide) rfl ?_
    refine b_iconst (v := (1 : Int32)) C dX0_extremeEnd_145 (by decide) ?_
    refine b_istore (lv' := [(8, .int (1 : Int32)), (6, .long x87), (12, .int x77), (0, .ref (ad b)), (1, .int x69), (2, .int x70), (4, .int x71), (5, .ref (ad x72)), (9, .int x75), (10, .int x76)]) C dX0_extremeEnd_146 (by decide) rfl ?_
    obtain ⟨x89, ex89, h90⟩ := lt1_inv h88; clear h88
    refine b_iinc (v := x89) (lv' := [(9, .int x89), (8, .int (1 : Int32)), (6, .long x87), (12, .int x77), (0, .ref (ad b)), (1, .int x69), (2, .int x70), (4, .int x71), (5, .ref (ad x72)), (10, .int x76)]) C 8 dX0_extremeEnd_148 rfl (by rw [ex89]; rfl) (by decide) rfl ?_
    refine b_goto (tgt := 26) C dX0_extremeEnd_151 (by decide) ?_
    exact b_sub [4, 5, 6, 7, 8, 2, 1, 0] rfl (hq26 _ _ _ _ _ _ _ _ h90)
  have h82 := ineg h79 c80; clear h79
  refine b_iload C 0 dX0_extremeEnd_128 rfl ?_
  refine b_if_eq (tgt := 141) C dX0_extremeEnd_130 (by decide) (fun c91 => ?_) (fun c91 => ?_)
  · have h92 := ipos h82 c91; clear h82
    refine b_lload C 6 dX0_extremeEnd_141 rfl ?_
    refine b_lstore (lv' := [(6, .long x73), (12, .int x77), (0, .ref (ad b)), (1, .int x69), (2, .int x70), (4, .int x71), (5, .ref (ad x72)), (8, .int x74), (9, .int x75), (10, .int x76)]) C dX0_extremeEnd_143 (by decide) rfl ?_
    refine b_iconst (v := (1 : Int32)) C dX0_extremeEnd_145 (by decide) ?_
    refine b_istore (lv' := [(8, .int (1 : Int32)), (6, .long x73), (12, .int x77), (0, .ref (ad b)), (1, .int x69), (2, .int x70), (4, .int x71), (5, .ref (ad x72)), (9, .int x75), (10, .int x76)]) C dX0_extremeEnd_146 (by decide) rfl ?_
    obtain ⟨x94, ex94, h95⟩ := lt1_inv h92; clear h92
    refine b_iinc (v := x94) (lv' := [(9, .int x94), (8, .int (1 : Int32)), (6, .long x73), (12, .int x77), (0, .ref (ad b)), (1, .int x69), (2, .int x70), (4, .int x71), (5, .ref (ad x72)), (10, .int x76)]) C 8 dX0_extremeEnd_148 rfl (by rw [ex94]; rfl) (by decide) rfl ?_
    refine b_goto (tgt := 26) C dX0_extremeEnd_151 (by decide) ?_
    exact b_sub [4, 5, 6, 7, 8, 2, 1, 0] rfl (hq26 _ _ _ _ _ _ _ _ h95)
  have h93 := ineg h82 c91; clear h82
  refine b_aload C 5 dX0_extremeEnd_133 rfl ?_
  refine b_iload C 9 dX0_extremeEnd_135 rfl ?_
  obtain ⟨g97, h96⟩ := gdn h93; clear h93
  obtain ⟨g99, h98⟩ := gdn h96; clear h96
  refine lX_t C X (nb g97) g99 dX0_extremeEnd_137 ?_
  refine b_goto (tgt := 143) C dX0_extremeEnd_138 (by decide) ?_
  obtain ⟨x100, ex100, h101⟩ := lt1_inv h98; clear h98
  refine b_nmJ ex100 ?_
  refine b_lstore (lv' := [(6, .long x100), (12, .int x77), (0, .ref (ad b)), (1, .int x69), (2, .int x70), (4, .int x71), (5, .ref (ad x72)), (8, .int x74), (9, .int x75), (10, .int x76)]) C dX0_extremeEnd_143 (by decide) rfl ?_
  refine b_iconst (v := (1 : Int32)) C dX0_extremeEnd_145 (by decide) ?_
  refine b_istore (lv' := [(8, .int (1 : Int32)), (6, .long x100), (12, .int x77), (0, .ref (ad b)), (1, .int x69), (2, .int x70), (4, .int x71), (5, .ref (ad x72)), (9, .int x75), (10, .int x76)]) C dX0_extremeEnd_146 (by decide) rfl ?_
  obtain ⟨x102, ex102, h103⟩ := lt1_inv h101; clear h101
  refine b_iinc (v := x102) (lv' := [(9, .int x102), (8, .int (1 : Int32)), (6, .long x100), (12, .int x77), (0, .ref (ad b)), (1, .int x69), (2, .int x70), (4, .int x71), (5, .ref (ad x72)), (10, .int x76)]) C 8 dX0_extremeEnd_148 rfl (by rw [ex102]; rfl) (by decide) rfl ?_
  refine b_goto (tgt := 26) C dX0_extremeEnd_151 (by decide) ?_
  exact b_sub [4, 5, 6, 7, 8, 2, 1, 0] rfl (hq26 _ _ _ _ _ _ _ _ h103)
theorem wX0_extremeEnd_61 {l : Launch} {p : Program} {e : Env} {s : State} {m : MethodId} {args : Array Value} {below : List Frame} {meth : Method} {c : Code} {D : va_G} {A : Nat → Prop} {ad : Nat → Nat} {ca : Nat → ClassId} {rf : Int64} {σf : St} (C : Cb p s m args meth c RX0 cX0_extremeEnd 13) (X : Cx s D A (wX ad ca) (tyX ca)) (hr : meth.sig.returnType = (some .long)) {b : Nat} (hb : isT b = true) {N : Nat} {q26 : St → Int32 → Int32 → Int32 → Nat → Int64 → Int32 → Int32 → Option (Int64 × St)} (hq26 : ∀ (σ : St) (y0 : Int32) (y1 : Int32) (y2 : Int32) (y3 : Nat) (y4 : Int64) (y5 : Int32) (y6 : Int32), q26 σ y0 y1 y2 y3 y4 y5 y6 = some (rf, σf) → bW p l e rmX0_extremeEnd s m args below meth c 0 0 (MQ below (Qw D (wX ad ca) σf (some (.long rf)) A) args s 0 0 A) 13 (wd D A (wX ad ca) s σ) 26 [(0, .ref (ad b)), (1, .int y0), (2, .int y1), (4, .int y2), (5, .ref (ad y3)), (6, .long y4), (8, .int y5), (9, .int y6)] []) : ∀ (σ : St) (y0 : Int32) (y1 : Int32) (y2 : Int32) (y3 : Nat) (y4 : Int64) (y5 : Int32) (y6 : Int32) (y7 : Int32) (y8 : Int32), fX0_extremeEnd_61 N b q26 σ y0 y1 y2 y3 y4 y5 y6 y7 y8 = some (rf, σf) → bW p l e rmX0_extremeEnd s m args below meth c 0 0 (MQ below (Qw D (wX ad ca) σf (some (.long rf)) A) args s 0 0 A) 13 (wd D A (wX ad ca) s σ) 61 [(0, .ref (ad b)), (1, .int y0), (2, .int y1), (4, .int y2), (5, .ref (ad y3)), (6, .long y4), (8, .int y5), (9, .int y6), (10, .int y7)] [.int y8] := by
  intro σ42 x33 x34 x35 x36 x37 x38 x39 x40 x41 h43
  refine b_istore (lv' := [(11, .int x41), (0, .ref (ad b)), (1, .int x33), (2, .int x34), (4, .int x35), (5, .ref (ad x36)), (6, .long x37), (8, .int x38), (9, .int x39), (10, .int x40)]) C dX0_extremeEnd_61 (by decide) rfl ?_
  refine b_iload C 0 dX0_extremeEnd_63 rfl ?_
  refine b_if_eq (tgt := 148) C dX0_extremeEnd_65 (by decide) (fun c44 => ?_) (fun c44 => ?_)
  · have h45 := ipos h43 c44; clear h43
    obtain ⟨x47, ex47, h48⟩ := lt1_inv h45; clear h45
    refine b_iinc (v := x47) (lv' := [(9, .int x47), (11, .int x41), (0, .ref (ad b)), (1, .int x33), (2, .int x34), (4, .int x35), (5, .ref (ad x36)), (6, .long x37), (8, .int x38), (10, .int x40)]) C 8 dX0_extremeEnd_148 rfl (by rw [ex47]; rfl) (by decide) rfl ?_
    refine b_goto (tgt := 26) C dX0_extremeEnd_151 (by decide) ?_
    exact b_sub [2, 3, 4, 5, 6, 7, 8, 0] rfl (hq26 _ _ _ _ _ _ _ _ h48)
  have h46 := ineg h43 c44; clear h43
  refine b_iload C 9 dX0_extremeEnd_68 rfl ?_
  refine b_if_lt (tgt := 148) C dX0_extremeEnd_70 (by decide) (fun c49 => ?_) (fun c49 => ?_)
  · have h50 := ipos h46 c49; clear h46
    obtain ⟨x52, ex52, h53⟩ := lt1_inv h50; clear h50
    refine b_iinc (v := x52) (lv' := [(9, .int x52), (11, .int x41), (0, .ref (ad b)), (1, .int x33), (2, .int x34), (4, .int x35), (5, .ref (ad x36)), (6, .long x37), (8, .int x38), (10, .int x40)]) C 8 dX0_extremeEnd_148 rfl (by rw [ex52]; rfl) (by decide) rfl ?_
    refine b_goto (tgt := 26) C dX0_extremeEnd_151 (by decide) ?_
    exact b_sub [2, 3, 4, 5, 6, 7, 8, 0] rfl (hq26 _ _ _ _ _ _ _ _ h53)
  have h51 := ineg h46 c49; clear h46
  refine b_iload C 9 dX0_extremeEnd_73 rfl ?_
  refine b_aload C 5 dX0_extremeEnd_75 rfl ?_
  obtain ⟨g55, h54⟩ := gdn h51; clear h51
  refine nX_t C X (nb g55) dX0_extremeEnd_77 ?_
  refine b_icmp_ge (tgt := 148) C dX0_extremeEnd_78 (by decide) (fun c56 => ?_) (fun c56 => ?_)
  · have h57 := ipos h54 c56; clear h54
    obtain ⟨x59, ex59, h60⟩ := lt1_inv h57; clear h57
    refine b_iinc (v := x59) (lv' := [(9, .int x59), (11, .int x41), (0, .ref (ad b)), (1, .int x33), (2, .int x34), (4, .int x35), (5, .ref (ad x36)), (6, .long x37), (8, .int x38), (10, .int x40)]) C 8 dX0_extremeEnd_148 rfl (by rw [ex59]; rfl) (by decide) rfl ?_
    refine b_goto (tgt := 26) C dX0_extremeEnd_151 (by decide) ?_
    exact b_sub [2, 3, 4, 5, 6, 7, 8, 0] rfl (hq26 _ _ _ _ _ _ _ _ h60)
  have h58 := ineg h54 c56; clear h54
  refine b_iload C 4 dX0_extremeEnd_81 rfl ?_
  refine b_if_eq (tgt := 105) C dX0_extremeEnd_83 (by decide) (fun c61 => ?_) (fun c61 => ?_)
  · have h62 := ipos h58 c61; clear h58
    refine b_aload C 5 dX0_extremeEnd_105 rfl ?_
    refine b_iload C 9 dX0_extremeEnd_107 rfl ?_
    obtain ⟨g65, h64⟩ := gdn h62; clear h62
    refine lX_t C X (nb g55) g65 dX0_extremeEnd_109 ?_
    refine b_lload C 6 dX0_extremeEnd_110 rfl ?_
    refine b_lc_ge (tgt := 120) C dX0_extremeEnd_112 dX0_extremeEnd_113 (by decide) (fun c66 => ?_) (fun c66 => ?_)
    · have h67 := ipos h64 c66; clear h64
      refine b_iconst (v := (0 : Int32)) C dX0_extremeEnd_120 (by decide) ?_
      exact b_sub [1, 2, 3, 4, 5, 6, 7, 8, 9] rfl (wX0_extremeEnd_121 C X hr hb hq26 _ _ _ _ _ _ _ _ _ _ h67)
    have h68 := ineg h64 c66; clear h64
    refine b_iconst (v := (1 : Int32)) C dX0_extremeEnd_116 (by decide) ?_
    refine b_goto (tgt := 121) C dX0_extremeEnd_117 (by decide) ?_
    exact b_sub [1, 2, 3, 4, 5, 6, 7, 8, 9] rfl (wX0_extremeEnd_121 C X hr hb hq26 _ _ _ _ _ _ _ _ _ _ h68)
  have h63 := ineg h58 c61; clear h58
  refine b_aload C 5 dX0_extremeEnd_86 rfl ?_
  refine b_iload C 9 dX0_extremeEnd_88 rfl ?_
  obtain ⟨g105, h104⟩ := gdn h63; clear h63
  refine lX_t C X (nb g55) g105 dX0_extremeEnd_90 ?_
  refine b_lload C 6 dX0_extremeEnd_91 rfl ?_
  refine b_lc_le (tgt := 101) C dX0_extremeEnd_93 dX0_extremeEnd_94 (by decide) (fun c106 => ?_) (fun c106 => ?_)
  · have h107 := ipos h104 c106; clear h104
    refine b_iconst (v := (0 : Int32)) C dX0_extremeEnd_101 (by decide) ?_
    refine b_goto (tgt := 121) C dX0_extremeEnd_102 (by decide) ?_
    exact b_sub [1, 2, 3, 4, 5, 6, 7, 8, 9] rfl (wX0_extremeEnd_121 C X hr hb hq26 _ _ _ _ _ _ _ _ _ _ h107)
  have h108 := ineg h104 c106; clear h104
  refine b_iconst (v := (1 : Int32)) C dX0_extremeEnd_97 (by decide) ?_
  refine b_goto (tgt := 121) C dX0_extremeEnd_98 (by decide) ?_
  exact b_sub [1, 2, 3, 4, 5, 6, 7, 8, 9] rfl (wX0_extremeEnd_121 C X hr hb hq26 _ _ _ _ _ _ _ _ _ _ h108)
theorem wX0_extremeEnd_26 {l : Launch} {p : Program} {e : Env} {s : State} {m : MethodId} {args : Array Value} {below : List Frame} {meth : Method} {c : Code} {D : va_G} {A : Nat → Prop} {ad : Nat → Nat} {ca : Nat → ClassId} {rf : Int64} {σf : St} (C : Cb p s m args meth c RX0 cX0_extremeEnd 13) (X : Cx s D A (wX ad ca) (tyX ca)) (hr : meth.sig.returnType = (some .long)) {b : Nat} (hb : isT b = true) {N : Nat} {q154 : St → Int64 → Option (Int64 × St)} (hq154 : ∀ (σ : St) (y0 : Int64), q154 σ y0 = some (rf, σf) → bW p l e rmX0_extremeEnd s m args below meth c 0 0 (MQ below (Qw D (wX ad ca) σf (some (.long rf)) A) args s 0 0 A) 13 (wd D A (wX ad ca) s σ) 154 [(6, .long y0)] []) : ∀ n : Nat, ∀ (σ : St) (y0 : Int32) (y1 : Int32) (y2 : Int32) (y3 : Nat) (y4 : Int64) (y5 : Int32) (y6 : Int32), fX0_extremeEnd_26 N b q154 n σ y0 y1 y2 y3 y4 y5 y6 = some (rf, σf) → bW p l e rmX0_extremeEnd s m args below meth c 0 0 (MQ below (Qw D (wX ad ca) σf (some (.long rf)) A) args s 0 0 A) 13 (wd D A (wX ad ca) s σ) 26 [(0, .ref (ad b)), (1, .int y0), (2, .int y1), (4, .int y2), (5, .ref (ad y3)), (6, .long y4), (8, .int y5), (9, .int y6)] [] := by
  intro n
  induction n with
  | zero => intro σ23 x16 x17 x18 x19 x20 x21 x22 h24; exact nn h24
  | succ n hq26 =>
    intro σ23 x16 x17 x18 x19 x20 x21 x22 h24
    replace h24 : fX0_extremeEnd_26b N b q154 (fX0_extremeEnd_26 N b q154 n) σ23 x16 x17 x18 x19 x20 x21 x22 = some (rf, σf) := h24
    refine b_iload C 7 dX0_extremeEnd_26 rfl ?_
    refine b_aload_n C 0 dX0_extremeEnd_28 rfl rfl ?_
    refine gX0_7 C X hb dX0_extremeEnd_29 ?_
    refine b_icmp_ge (tgt := 154) C dX0_extremeEnd_32 (by decide) (fun c25 => ?_) (fun c25 => ?_)
    · have h26 := ipos h24 c25; clear h24
      exact b_sub [5] rfl (hq154 _ _ h26)
    have h27 := ineg h24 c25; clear h24
    refine b_iload_n C 1 dX0_extremeEnd_35 rfl rfl ?_
    refine b_aload_n C 0 dX0_extremeEnd_36 rfl rfl ?_
    refine gX0_7 C X hb dX0_extremeEnd_37 ?_
    refine b_imul C dX0_extremeEnd_40 ?_
    refine b_iload C 7 dX0_extremeEnd_41 rfl ?_
    refine b_iadd C dX0_extremeEnd_43 ?_
    obtain ⟨x28, ex28, h29⟩ := lt1_inv h27; clear h27
    refine b_nmI ex28 ?_
    refine b_istore (lv' := [(10, .int x28), (0, .ref (ad b)), (1, .int x16), (2, .int x17), (4, .int x18), (5, .ref (ad x19)), (6, .long x20), (8, .int x21), (9, .int x22)]) C dX0_extremeEnd_44 (by decide) rfl ?_
    refine b_iload_n C 3 dX0_extremeEnd_46 rfl rfl ?_
    refine b_iload C 8 dX0_extremeEnd_47 rfl ?_
    refine b_ishr C dX0_extremeEnd_49 ?_
    refine b_iconst (v := (1 : Int32)) C dX0_extremeEnd_50 (by decide) ?_
    refine b_iand C dX0_extremeEnd_51 ?_
    refine b_iconst (v := (1 : Int32)) C dX0_extremeEnd_52 (by decide) ?_
    refine b_icmp_ne (tgt := 60) C dX0_extremeEnd_53 (by decide) (fun c30 => ?_) (fun c30 => ?_)
    · have h31 := ineg h29 c30; clear h29
      refine b_iconst (v := (0 : Int32)) C dX0_extremeEnd_60 (by decide) ?_
      exact b_sub [1, 2, 3, 4, 5, 6, 7, 8, 0] rfl (wX0_extremeEnd_61 C X hr hb hq26 _ _ _ _ _ _ _ _ _ _ h31)
    have h32 := ipos h29 c30; clear h29
    refine b_iconst (v := (1 : Int32)) C dX0_extremeEnd_56 (by decide) ?_
    refine b_goto (tgt := 61) C dX0_extremeEnd_57 (by decide) ?_
    exact b_sub [1, 2, 3, 4, 5, 6, 7, 8, 0] rfl (wX0_extremeEnd_61 C X hr hb hq26 _ _ _ _ _ _ _ _ _ _ h32)
theorem wX0_extremeEnd_15 {l : Launch} {p : Program} {e : Env} {s : State} {m : MethodId} {args : Array Value} {below : List Frame} {meth : Method} {c : Code} {D : va_G} {A : Nat → Prop} {ad : Nat → Nat} {ca : Nat → ClassId} {rf : Int64} {σf : St} (C : Cb p s m args meth c RX0 cX0_extremeEnd 13) (X : Cx s D A (wX ad ca) (tyX ca)) (hr : meth.sig.returnType = (some .long)) {b : Nat} (hb : isT b = true) {N : Nat} : ∀ (σ : St) (y0 : Int32) (y1 : Int32) (y2 : Int32) (y3 : Nat), fX0_extremeEnd_15 N b σ y0 y1 y2 y3 = some (rf, σf) → bW p l e rmX0_extremeEnd s m args below meth c 0 0 (MQ below (Qw D (wX ad ca) σf (some (.long rf)) A) args s 0 0 A) 13 (wd D A (wX ad ca) s σ) 15 [(0, .ref (ad b)), (1, .int y0), (2, .int y1), (4, .int y2)] [.ref (ad y3)] := by
  intro σ14 x10 x11 x12 x13 h15
  refine b_astore (lv' := [(5, .ref (ad x13)), (0, .ref (ad b)), (1, .int x10), (2, .int x11), (4, .int x12)]) C dX0_extremeEnd_15 (by decide) rfl ?_
  refine b_lconst (v := (0 : Int64)) C dX0_extremeEnd_17 (by decide) ?_
  refine b_lstore (lv' := [(6, .long (0 : Int64)), (5, .ref (ad x13)), (0, .ref (ad b)), (1, .int x10), (2, .int x11), (4, .int x12)]) C dX0_extremeEnd_18 (by decide) rfl ?_
  refine b_iconst (v := (0 : Int32)) C dX0_extremeEnd_20 (by decide) ?_
  refine b_istore (lv' := [(8, .int (0 : Int32)), (6, .long (0 : Int64)), (5, .ref (ad x13)), (0, .ref (ad b)), (1, .int x10), (2, .int x11), (4, .int x12)]) C dX0_extremeEnd_21 (by decide) rfl ?_
  refine b_iconst (v := (0 : Int32)) C dX0_extremeEnd_23 (by decide) ?_
  refine b_istore (lv' := [(9, .int (0 : Int32)), (8, .int (0 : Int32)), (6, .long (0 : Int64)), (5, .ref (ad x13)), (0, .ref (ad b)), (1, .int x10), (2, .int x11), (4, .int x12)]) C dX0_extremeEnd_24 (by decide) rfl ?_
  refine b_sub [4, 5, 6, 7, 3, 2, 1, 0] rfl (wX0_extremeEnd_26 C X hr hb (fun σ110 x109 h111 => ?_) _ _ _ _ _ _ _ _ _ h15)
  refine b_lload C 0 dX0_extremeEnd_154 rfl ?_
  obtain ⟨rfl, rfl⟩ := so2 h111
  exact b_lret C dX0_extremeEnd_156 hr
theorem ctX0_extremeEnd {l : Launch} {ad : Nat → Nat} {ca : Nat → ClassId} {N : Nat} {σ : St} {b : Nat} {a1 : Int32} {a2 : Int32} {a3 : Int32} {a4 : Int32} {rf : Int64} {σf : St} (h : fX0_extremeEnd N σ b a1 a2 a3 a4 = some (rf, σf)) : Cw l yX0_extremeEnd cX0_extremeEnd 13 (some .long) rmX0_extremeEnd [.ref (ad b), .int a1, .int a2, .int a3, .int a4] (wX ad ca) (tyX ca) σ (some (.long rf)) σf := by
  obtain ⟨hb0, h6⟩ := gdn h; clear h
  have hb : isT b = true := nb hb0
  refine Cw_of (by decide) (sameX ad ca) (Nat.le_of_ble_eq_true rfl) ?_
  intro p e s m args below meth c D A C X hr
  replace C : Cb p s m args meth c RX0 cX0_extremeEnd 13 := C
  refine b_sub (lv' := [(0, .ref (ad b)), (1, .int a1), (2, .int a2), (3, .int a3), (4, .int a4)]) [0, 1, 2, 3, 4] rfl ?_
  refine b_iload_n C 3 dX0_extremeEnd_0 rfl rfl ?_
  refine b_if_eq (tgt := 11) C dX0_extremeEnd_1 (by decide) (fun c7 => ?_) (fun c7 => ?_)
  · have h8 := ipos h6 c7; clear h6
    refine b_aload_n C 0 dX0_extremeEnd_11 rfl rfl ?_
    refine gX0_13 C X hb dX0_extremeEnd_12 ?_
    exact b_sub [0, 1, 2, 4] rfl (wX0_extremeEnd_15 C X hr hb _ _ _ _ _ h8)
  have h9 := ineg h6 c7; clear h6
  refine b_aload_n C 0 dX0_extremeEnd_4 rfl rfl ?_
  refine gX0_17 C X hb dX0_extremeEnd_5 ?_
  refine b_goto (tgt := 15) C dX0_extremeEnd_8 (by decide) ?_
  exact b_sub [0, 1, 2, 4] rfl (wX0_extremeEnd_15 C X hr hb _ _ _ _ _ h9)
def rmX0_clearRow : Room := { frames := 1, cells := 0, slots := 0, locals := 27 }
def fX0_clearRow_2b (N : Nat) (b : Nat) (q24 : St → Option St) (q2 : St → Int32 → Int32 → Option St) (σ6 : St) (x4 : Int32) (x5 : Int32) : Option St :=
  if (10 : Int32) ≤ x5 then (
  q24 σ6)
  else (
  bd0 (fX0_put σ6 b x4 x5 (0 : Int64) (0 : Int64)) fun σ12 =>
  lt1 (x5 + (1 : Int32)) fun x13 =>
  q2 σ12 x4 x13)
def fX0_clearRow_2 (N : Nat) (b : Nat) (q24 : St → Option St) : Nat → St → Int32 → Int32 → Option St
  | 0, _, _, _ => none
  | n + 1, σ, x4, x5 => fX0_clearRow_2b N b q24 (fX0_clearRow_2 N b q24 n) σ x4 x5
def fX0_clearRow (N : Nat) (σ : St) (b : Nat) (a1 : Int32) : Option St :=
  if isT b = false then none else
  fX0_clearRow_2 N b (fun σ15 =>
 some σ15) N σ a1 (0 : Int32)
theorem wX0_clearRow_2 {l : Launch} {p : Program} {e : Env} {s : State} {m : MethodId} {args : Array Value} {below : List Frame} {meth : Method} {c : Code} {D : va_G} {A : Nat → Prop} {ad : Nat → Nat} {ca : Nat → ClassId} {σf : St} (C : Cb p s m args meth c RX0 cX0_clearRow 3) (X : Cx s D A (wX ad ca) (tyX ca)) (hr : meth.sig.returnType = none) {b : Nat} (hb : isT b = true) {N : Nat} {q24 : St → Option St} (hq24 : ∀ (σ : St), q24 σ = some σf → bW p l e rmX0_clearRow s m args below meth c 0 0 (MQ below (Qw D (wX ad ca) σf none A) args s 0 0 A) 3 (wd D A (wX ad ca) s σ) 24 [] []) : ∀ n : Nat, ∀ (σ : St) (y0 : Int32) (y1 : Int32), fX0_clearRow_2 N b q24 n σ y0 y1 = some σf → bW p l e rmX0_clearRow s m args below meth c 0 0 (MQ below (Qw D (wX ad ca) σf none A) args s 0 0 A) 3 (wd D A (wX ad ca) s σ) 2 [(0, .ref (ad b)), (1, .int y0), (2, .int y1)] [] := by
  intro n
  induction n with
  | zero => intro σ6 x4 x5 h7; exact nn h7
  | succ n hq2 =>
    intro σ6 x4 x5 h7
    replace h7 : fX0_clearRow_2b N b q24 (fX0_clearRow_2 N b q24 n) σ6 x4 x5 = some σf := h7
    refine b_iload_n C 2 dX0_clearRow_2 rfl rfl ?_
    refine b_aload_n C 0 dX0_clearRow_3 rfl rfl ?_
    refine gX0_7 C X hb dX0_clearRow_4 ?_
    refine b_icmp_ge (tgt := 24) C dX0_clearRow_7 (by decide) (fun c8 => ?_) (fun c8 => ?_)
    · have h9 := ipos h7 c8; clear h7
      exact b_sub [] rfl (hq24 _ h9)
    have h10 := ineg h7 c8; clear h7
    refine b_aload_n C 0 dX0_clearRow_10 rfl rfl ?_
    refine b_iload_n C 1 dX0_clearRow_11 rfl rfl ?_
    refine b_iload_n C 2 dX0_clearRow_12 rfl rfl ?_
    refine b_lconst (v := (0 : Int64)) C dX0_clearRow_13 (by decide) ?_
    refine b_lconst (v := (0 : Int64)) C dX0_clearRow_14 (by decide) ?_
    obtain ⟨σ12, ec11, h11⟩ := bd0_inv h10; clear h10
    refine b_callTv (rest := []) C (sameX ad ca) X dX0_clearRow_15 (ctX0_put ec11) mf_X0_put mi_X0_put kl_X0_20 hb rfl rfl ⟨rfl, rfl⟩ ⟨Nat.le_of_ble_eq_true rfl, Nat.le_of_ble_eq_true rfl⟩ ⟨Nat.zero_le _, Nat.zero_le _⟩ rfl (Nat.le_of_ble_eq_true rfl) ?_
    obtain ⟨x13, ex13, h14⟩ := lt1_inv h11; clear h11
    refine b_iinc (v := x13) (lv' := [(2, .int x13), (0, .ref (ad b)), (1, .int x4)]) C 2 dX0_clearRow_18 rfl (by rw [ex13]; rfl) (by decide) rfl ?_
    refine b_goto (tgt := 2) C dX0_clearRow_21 (by decide) ?_
    exact b_sub [1, 2, 0] rfl (hq2 _ _ _ h14)
theorem ctX0_clearRow {l : Launch} {ad : Nat → Nat} {ca : Nat → ClassId} {N : Nat} {σ : St} {b : Nat} {a1 : Int32} {σf : St} (h : fX0_clearRow N σ b a1 = some σf) : Cw l yX0_clearRow cX0_clearRow 3 none rmX0_clearRow [.ref (ad b), .int a1] (wX ad ca) (tyX ca) σ none σf := by
  obtain ⟨hb0, h3⟩ := gdn h; clear h
  have hb : isT b = true := nb hb0
  refine Cw_of (by decide) (sameX ad ca) (Nat.le_of_ble_eq_true rfl) ?_
  intro p e s m args below meth c D A C X hr
  replace C : Cb p s m args meth c RX0 cX0_clearRow 3 := C
  refine b_sub (lv' := [(0, .ref (ad b)), (1, .int a1)]) [0, 1] rfl ?_
  refine b_iconst (v := (0 : Int32)) C dX0_clearRow_0 (by decide) ?_
  refine b_istore_n (lv' := [(2, .int (0 : Int32)), (0, .ref (ad b)), (1, .int a1)]) C dX0_clearRow_1 rfl (by decide) rfl ?_
  refine b_sub [1, 2, 0] rfl (wX0_clearRow_2 C X hr hb (fun σ15 h16 => ?_) _ _ _ _ h3)
  obtain rfl := so1 h16
  exact b_vret C dX0_clearRow_24 hr
def rmX1_append : Room := { frames := 0, cells := 0, slots := 0, locals := 0 }
def fX1_append (σ : St) (a1 : Int32) : Option (Int32 × St) :=
  if (gI σ 5) < (0 : Int32) then (
  some ((0 : Int32), σ))
  else (
  if (gI σ 5) < (40 : Int32) then (
  if ((gI σ 5) < 0 ∨ 40 ≤ ((gI σ 5)).toNatClampNeg) then none else
  lt1 (sF σ 0 (upd (gF σ 0) ((gI σ 5)).toNatClampNeg (vp_nar .char a1))) fun σ11 =>
  lt1 (sI σ11 5 ((gI σ11 5) + (1 : Int32))) fun σ13 =>
  some ((1 : Int32), σ13))
  else (
  some ((0 : Int32), σ)))
theorem ctX1_append {l : Launch} {ad : Nat → Nat} {ca : Nat → ClassId} {σ : St} {a1 : Int32} {rf : Int32} {σf : St} (h : fX1_append σ a1 = some (rf, σf)) : Cw l yX1_append cX1_append 2 (some .boolean) rmX1_append [.ref (ad 1), .int a1] (wX ad ca) (tyX ca) σ (some (.int rf)) σf := by
  refine Cw_of (by decide) (sameX ad ca) (Nat.le_of_ble_eq_true rfl) ?_
  intro p e s m args below meth c D A C X hr
  replace C : Cb p s m args meth c RX1 cX1_append 2 := C
  have h2 := h; clear h
  refine b_sub (lv' := [(0, .ref (ad 1)), (1, .int a1)]) [0, 1] rfl ?_
  refine b_aload_n C 0 dX1_append_0 rfl rfl ?_
  refine gX1_15 C X dX1_append_1 ?_
  refine b_if_lt (tgt := 19) C dX1_append_4 (by decide) (fun c3 => ?_) (fun c3 => ?_)
  · have h4 := ipos h2 c3; clear h2
    refine b_iconst (v := (0 : Int32)) C dX1_append_19 (by decide) ?_
    obtain ⟨rfl, rfl⟩ := so2 h4
    exact b_zret C dX1_append_20 hr rfl
  have h5 := ineg h2 c3; clear h2
  refine b_aload_n C 0 dX1_append_7 rfl rfl ?_
  refine gX1_15 C X dX1_append_8 ?_
  refine b_aload_n C 0 dX1_append_11 rfl rfl ?_
  refine gX1_9 C X dX1_append_12 ?_
  refine nX_2 C X dX1_append_15 ?_
  refine b_icmp_lt (tgt := 21) C dX1_append_16 (by decide) (fun c6 => ?_) (fun c6 => ?_)
  · have h7 := ipos h5 c6; clear h5
    refine b_aload_n C 0 dX1_append_21 rfl rfl ?_
    refine gX1_9 C X dX1_append_22 ?_
    refine b_aload_n C 0 dX1_append_25 rfl rfl ?_
    refine gX1_15 C X dX1_append_26 ?_
    refine b_iload_n C 1 dX1_append_29 rfl rfl ?_
    obtain ⟨g10, h9⟩ := gdn h7; clear h7
    refine aX_2 C X g10 dX1_append_30 ?_
    obtain ⟨σ11, eσ11, h12⟩ := lt1_inv h9; clear h9
    refine b_nmS eσ11 ?_
    refine b_aload_n C 0 dX1_append_31 rfl rfl ?_
    refine b_dup C dX1_append_32 rfl ?_
    refine gX1_15 C X dX1_append_33 ?_
    refine b_iconst (v := (1 : Int32)) C dX1_append_36 (by decide) ?_
    refine b_iadd C dX1_append_37 ?_
    refine pX1_15 C X dX1_append_38 ?_
    obtain ⟨σ13, eσ13, h14⟩ := lt1_inv h12; clear h12
    refine b_nmS eσ13 ?_
    refine b_iconst (v := (1 : Int32)) C dX1_append_41 (by decide) ?_
    obtain ⟨rfl, rfl⟩ := so2 h14
    exact b_zret C dX1_append_42 hr rfl
  have h8 := ineg h5 c6; clear h5
  refine b_iconst (v := (0 : Int32)) C dX1_append_19 (by decide) ?_
  obtain ⟨rfl, rfl⟩ := so2 h8
  exact b_zret C dX1_append_20 hr rfl
def rmX1_empty : Room := { frames := 0, cells := 0, slots := 0, locals := 0 }
def fX1_empty (σ : St) : Option (Int32 × St) :=
  lt1 (gI σ 5) fun x2 =>
  lt1 (sI σ 5 (0 : Int32)) fun σ4 =>
  some (x2, σ4)
theorem ctX1_empty {l : Launch} {ad : Nat → Nat} {ca : Nat → ClassId} {σ : St} {rf : Int32} {σf : St} (h : fX1_empty σ = some (rf, σf)) : Cw l yX1_empty cX1_empty 2 (some .int) rmX1_empty [.ref (ad 1)] (wX ad ca) (tyX ca) σ (some (.int rf)) σf := by
  refine Cw_of (by decide) (sameX ad ca) (Nat.le_of_ble_eq_true rfl) ?_
  intro p e s m args below meth c D A C X hr
  replace C : Cb p s m args meth c RX1 cX1_empty 2 := C
  have h1 := h; clear h
  refine b_sub (lv' := [(0, .ref (ad 1))]) [0] rfl ?_
  refine b_aload_n C 0 dX1_empty_0 rfl rfl ?_
  refine gX1_15 C X dX1_empty_1 ?_
  obtain ⟨x2, ex2, h3⟩ := lt1_inv h1; clear h1
  refine b_nmI ex2 ?_
  refine b_istore_n (lv' := [(1, .int x2), (0, .ref (ad 1))]) C dX1_empty_4 rfl (by decide) rfl ?_
  refine b_aload_n C 1 dX1_empty_5 rfl rfl ?_
  refine b_iconst (v := (0 : Int32)) C dX1_empty_6 (by decide) ?_
  refine pX1_15 C X dX1_empty_7 ?_
  obtain ⟨σ4, eσ4, h5⟩ := lt1_inv h3; clear h3
  refine b_nmS eσ4 ?_
  refine b_iload_n C 0 dX1_empty_10 rfl rfl ?_
  obtain ⟨rfl, rfl⟩ := so2 h5
  exact b_iret C dX1_empty_11 hr
def rmX1_size : Room := { frames := 0, cells := 0, slots := 0, locals := 0 }
def fX1_size (σ : St) : Option (Int32 × St) :=
  some ((gI σ 5), σ)
theorem ctX1_size {l : Launch} {ad : Nat → Nat} {ca : Nat → ClassId} {σ : St} {rf : Int32} {σf : St} (h : fX1_size σ = some (rf, σf)) : Cw l yX1_size cX1_size 1 (some .int) rmX1_size [.ref (ad 1)] (wX ad ca) (tyX ca) σ (some (.int rf)) σf := by
  refine Cw_of (by decide) (sameX ad ca) (Nat.le_of_ble_eq_true rfl) ?_
  intro p e s m args below meth c D A C X hr
  replace C : Cb p s m args meth c RX1 cX1_size 1 := C
  have h1 := h; clear h
  refine b_sub (lv' := [(0, .ref (ad 1))]) [0] rfl ?_
  refine b_aload_n C 0 dX1_size_0 rfl rfl ?_
  refine gX1_15 C X dX1_size_1 ?_
  obtain ⟨rfl, rfl⟩ := so2 h1
  exact b_iret C dX1_size_4 hr
def rmX1_parsedLow : Room := { frames := 0, cells := 0, slots := 0, locals := 0 }
def fX1_parsedLow (σ : St) : Option (Int64 × St) :=
  some ((gJ σ 1), σ)
theorem ctX1_parsedLow {l : Launch} {ad : Nat → Nat} {ca : Nat → ClassId} {σ : St} {rf : Int64} {σf : St} (h : fX1_parsedLow σ = some (rf, σf)) : Cw l yX1_parsedLow cX1_parsedLow 1 (some .long) rmX1_parsedLow [.ref (ad 1)] (wX ad ca) (tyX ca) σ (some (.long rf)) σf := by
  refine Cw_of (by decide) (sameX ad ca) (Nat.le_of_ble_eq_true rfl) ?_
  intro p e s m args below meth c D A C X hr
  replace C : Cb p s m args meth c RX1 cX1_parsedLow 1 := C
  have h1 := h; clear h
  refine b_sub (lv' := [(0, .ref (ad 1))]) [0] rfl ?_
  refine b_aload_n C 0 dX1_parsedLow_0 rfl rfl ?_
  refine gX1_19 C X dX1_parsedLow_1 ?_
  obtain ⟨rfl, rfl⟩ := so2 h1
  exact b_lret C dX1_parsedLow_4 hr
def rmX1_parsedHigh : Room := { frames := 0, cells := 0, slots := 0, locals := 0 }
def fX1_parsedHigh (σ : St) : Option (Int64 × St) :=
  some ((gJ σ 2), σ)
theorem ctX1_parsedHigh {l : Launch} {ad : Nat → Nat} {ca : Nat → ClassId} {σ : St} {rf : Int64} {σf : St} (h : fX1_parsedHigh σ = some (rf, σf)) : Cw l yX1_parsedHigh cX1_parsedHigh 1 (some .long) rmX1_parsedHigh [.ref (ad 1)] (wX ad ca) (tyX ca) σ (some (.long rf)) σf := by
  refine Cw_of (by decide) (sameX ad ca) (Nat.le_of_ble_eq_true rfl) ?_
  intro p e s m args below meth c D A C X hr
  replace C : Cb p s m args meth c RX1 cX1_parsedHigh 1 := C
  have h1 := h; clear h
  refine b_sub (lv' := [(0, .ref (ad 1))]) [0] rfl ?_
  refine b_aload_n C 0 dX1_parsedHigh_0 rfl rfl ?_
  refine gX1_23 C X dX1_parsedHigh_1 ?_
  obtain ⟨rfl, rfl⟩ := so2 h1
  exact b_lret C dX1_parsedHigh_4 hr
def rmX1_characterNext : Room := { frames := 0, cells := 0, slots := 0, locals := 0 }
def fX1_characterNext (σ : St) : Option (Int32 × St) :=
  if (gI σ 6) < (0 : Int32) then (
  if ¬ (vp_nar .char (0 : Int32) = (0 : Int32)) then none else
  some ((0 : Int32), σ))
  else (
  if (gI σ 5) ≤ (gI σ 6) then (
  if ¬ (vp_nar .char (0 : Int32) = (0 : Int32)) then none else
  some ((0 : Int32), σ))
  else (
  if (40 : Int32) ≤ (gI σ 6) then (
  if ¬ (vp_nar .char (0 : Int32) = (0 : Int32)) then none else
  some ((0 : Int32), σ))
  else (
  if ((gI σ 6) < 0 ∨ 40 ≤ ((gI σ 6)).toNatClampNeg) then none else
  lt1 (gF σ 0 ((gI σ 6)).toNatClampNeg) fun x19 =>
  if ¬ (vp_nar .char x19 = x19) then none else
  some (x19, σ))))
theorem ctX1_characterNext {l : Launch} {ad : Nat → Nat} {ca : Nat → ClassId} {σ : St} {rf : Int32} {σf : St} (h : fX1_characterNext σ = some (rf, σf)) : Cw l yX1_characterNext cX1_characterNext 2 (some .char) rmX1_characterNext [.ref (ad 1)] (wX ad ca) (tyX ca) σ (some (.int rf)) σf := by
  refine Cw_of (by decide) (sameX ad ca) (Nat.le_of_ble_eq_true rfl) ?_
  intro p e s m args below meth c D A C X hr
  replace C : Cb p s m args meth c RX1 cX1_characterNext 2 := C
  have h1 := h; clear h
  refine b_sub (lv' := [(0, .ref (ad 1))]) [0] rfl ?_
  refine b_aload_n C 0 dX1_characterNext_0 rfl rfl ?_
  refine gX1_26 C X dX1_characterNext_1 ?_
  refine b_if_lt (tgt := 34) C dX1_characterNext_4 (by decide) (fun c2 => ?_) (fun c2 => ?_)
  · have h3 := ipos h1 c2; clear h1
    refine b_iconst (v := (0 : Int32)) C dX1_characterNext_34 (by decide) ?_
    refine b_istore_n (lv' := [(1, .int (0 : Int32)), (0, .ref (ad 1))]) C dX1_characterNext_35 rfl (by decide) rfl ?_
    refine b_iload_n C 0 dX1_characterNext_36 rfl rfl ?_
    refine b_if_eq (tgt := 52) C dX1_characterNext_37 (by decide) (fun _ => ?_) (fun hc => absurd hc (by decide))
    refine b_iconst (v := (0 : Int32)) C dX1_characterNext_52 (by decide) ?_
    obtain ⟨g6, h5⟩ := gdn h3; clear h3
    obtain ⟨rfl, rfl⟩ := so2 h5
    exact b_zret C dX1_characterNext_53 hr (cn (Classical.not_not.mp g6))
  have h4 := ineg h1 c2; clear h1
  refine b_aload_n C 0 dX1_characterNext_7 rfl rfl ?_
  refine gX1_26 C X dX1_characterNext_8 ?_
  refine b_aload_n C 0 dX1_characterNext_11 rfl rfl ?_
  refine gX1_15 C X dX1_characterNext_12 ?_
  refine b_icmp_ge (tgt := 34) C dX1_characterNext_15 (by decide) (fun c7 => ?_) (fun c7 => ?_)
  · have h8 := ipos h4 c7; clear h4
    refine b_iconst (v := (0 : Int32)) C dX1_characterNext_34 (by decide) ?_
    refine b_istore_n (lv' := [(1, .int (0 : Int32)), (0, .ref (ad 1))]) C dX1_characterNext_35 rfl (by decide) rfl ?_
    refine b_iload_n C 0 dX1_characterNext_36 rfl rfl ?_
    refine b_if_eq (tgt := 52) C dX1_characterNext_37 (by decide) (fun _ => ?_) (fun hc => absurd hc (by decide))
    refine b_iconst (v := (0 : Int32)) C dX1_characterNext_52 (by decide) ?_
    obtain ⟨g11, h10⟩ := gdn h8; clear h8
    obtain ⟨rfl, rfl⟩ := so2 h10
    exact b_zret C dX1_characterNext_53 hr (cn (Classical.not_not.mp g11))
  have h9 := ineg h4 c7; clear h4
  refine b_aload_n C 0 dX1_characterNext_18 rfl rfl ?_
  refine gX1_26 C X dX1_characterNext_19 ?_
  refine b_aload_n C 0 dX1_characterNext_22 rfl rfl ?_
  refine gX1_9 C X dX1_characterNext_23 ?_
  refine nX_2 C X dX1_characterNext_26 ?_
  refine b_icmp_ge (tgt := 34) C dX1_characterNext_27 (by decide) (fun c12 => ?_) (fun c12 => ?_)
  · have h13 := ipos h9 c12; clear h9
    refine b_iconst (v := (0 : Int32)) C dX1_characterNext_34 (by decide) ?_
    refine b_istore_n (lv' := [(1, .int (0 : Int32)), (0, .ref (ad 1))]) C dX1_characterNext_35 rfl (by decide) rfl ?_
    refine b_iload_n C 0 dX1_characterNext_36 rfl rfl ?_
    refine b_if_eq (tgt := 52) C dX1_characterNext_37 (by decide) (fun _ => ?_) (fun hc => absurd hc (by decide))
    refine b_iconst (v := (0 : Int32)) C dX1_characterNext_52 (by decide) ?_
    obtain ⟨g16, h15⟩ := gdn h13; clear h13
    obtain ⟨rfl, rfl⟩ := so2 h15
    exact b_zret C dX1_characterNext_53 hr (cn (Classical.not_not.mp g16))
  have h14 := ineg h9 c12; clear h9
  refine b_iconst (v := (1 : Int32)) C dX1_characterNext_30 (by decide) ?_
  refine b_goto (tgt := 35) C dX1_characterNext_31 (by decide) ?_
  refine b_istore_n (lv' := [(1, .int (1 : Int32)), (0, .ref (ad 1))]) C dX1_characterNext_35 rfl (by decide) rfl ?_
  refine b_iload_n C 0 dX1_characterNext_36 rfl rfl ?_
  refine b_if_eq (tgt := 52) C dX1_characterNext_37 (by decide) (fun hc => absurd hc (by decide)) (fun _ => ?_)
  refine b_aload_n C 1 dX1_characterNext_40 rfl rfl ?_
  refine gX1_9 C X dX1_characterNext_41 ?_
  refine b_aload_n C 1 dX1_characterNext_44 rfl rfl ?_
  refine gX1_26 C X dX1_characterNext_45 ?_
  obtain ⟨g18, h17⟩ := gdn h14; clear h14
  refine lX_2 C X g18 dX1_characterNext_48 ?_
  refine b_goto (tgt := 53) C dX1_characterNext_49 (by decide) ?_
  obtain ⟨x19, ex19, h20⟩ := lt1_inv h17; clear h17
  refine b_nmI ex19 ?_
  obtain ⟨g22, h21⟩ := gdn h20; clear h20
  obtain ⟨rfl, rfl⟩ := so2 h21
  exact b_zret C dX1_characterNext_53 hr (cn (Classical.not_not.mp g22))
def rmX1_isDigit : Room := { frames := 0, cells := 0, slots := 0, locals := 0 }
def fX1_isDigit (a1 : Int32) : Option Int32 :=
  if a1 < (48 : Int32) then (
  some (0 : Int32))
  else (
  if (57 : Int32) < a1 then (
  some (0 : Int32))
  else (
  some (1 : Int32)))
theorem ctX1_isDigit {l : Launch} {a1 : Int32} {rf : Int32} (h : fX1_isDigit a1 = some rf) : Cs l yX1_isDigit cX1_isDigit 1 (some .boolean) rmX1_isDigit [.int a1] (some (.int rf)) := by
  refine Cs_of (by decide +kernel) (Nat.le_of_ble_eq_true rfl) ?_
  intro p e s m args below meth c C hr
  replace C : Cb p s m args meth c RX1 cX1_isDigit 1 := C
  have h2 := h; clear h
  refine b_sub (lv' := [(0, .int a1)]) [0] rfl ?_
  refine b_iload_n C 0 dX1_isDigit_0 rfl rfl ?_
  refine b_bipush (v := (48 : Int32)) C dX1_isDigit_1 (by decide) ?_
  refine b_icmp_lt (tgt := 16) C dX1_isDigit_3 (by decide) (fun c3 => ?_) (fun c3 => ?_)
  · have h4 := ipos h2 c3; clear h2
    refine b_iconst (v := (0 : Int32)) C dX1_isDigit_16 (by decide) ?_
    obtain rfl := so1 h4
    exact s_zret C dX1_isDigit_17 hr rfl
  have h5 := ineg h2 c3; clear h2
  refine b_iload_n C 0 dX1_isDigit_6 rfl rfl ?_
  refine b_bipush (v := (57 : Int32)) C dX1_isDigit_7 (by decide) ?_
  refine b_icmp_gt (tgt := 16) C dX1_isDigit_9 (by decide) (fun c6 => ?_) (fun c6 => ?_)
  · have h7 := ipos h5 c6; clear h5
    refine b_iconst (v := (0 : Int32)) C dX1_isDigit_16 (by decide) ?_
    obtain rfl := so1 h7
    exact s_zret C dX1_isDigit_17 hr rfl
  have h8 := ineg h5 c6; clear h5
  refine b_iconst (v := (1 : Int32)) C dX1_isDigit_12 (by decide) ?_
  refine b_goto (tgt := 17) C dX1_isDigit_13 (by decide) ?_
  obtain rfl := so1 h8
  exact s_zret C dX1_isDigit_17 hr rfl
def rmX1_parseDigits : Room := { frames := 1, cells := 0, slots := 0, locals := 21 }
def fX1_parseDigits_4b (N : Nat) (q51 : St → Int64 → Int32 → Option (Int64 × St)) (q4 : St → Int64 → Int32 → Option (Int64 × St)) (σ4 : St) (x2 : Int64) (x3 : Int32) : Option (Int64 × St) :=
  if (6 : Int32) ≤ x3 then (
  q51 σ4 x2 x3)
  else (
  bd2 (fX1_characterNext σ4) fun r11 σ10 =>
  bd0 (fX1_isDigit r11) fun r13 =>
  if r13 = (0 : Int32) then (
  q51 σ10 x2 x3)
  else (
  bd2 (fX1_characterNext σ10) fun r19 σ18 =>
  lt1 ((x2 * (10 : Int64)) + ((r19 - (48 : Int32)).toInt64)) fun x20 =>
  lt1 (x3 + (1 : Int32)) fun x22 =>
  lt1 (sI σ18 6 ((gI σ18 6) + (1 : Int32))) fun σ24 =>
  q4 σ24 x20 x22))
def fX1_parseDigits_4 (N : Nat) (q51 : St → Int64 → Int32 → Option (Int64 × St)) : Nat → St → Int64 → Int32 → Option (Int64 × St)
  | 0, _, _, _ => none
  | n + 1, σ, x2, x3 => fX1_parseDigits_4b N q51 (fX1_parseDigits_4 N q51 n) σ x2 x3
def fX1_parseDigits (N : Nat) (σ : St) : Option (Int64 × St) :=
  fX1_parseDigits_4 N (fun σ28 x26 x27 =>
 if x27 = (0 : Int32) then (
  some ((-1 : Int64), σ28))
  else (
  bd2 (fX1_characterNext σ28) fun r35 σ34 =>
  bd0 (fX1_isDigit r35) fun r37 =>
  if r37 = (0 : Int32) then (
  some (x26, σ34))
  else (
  some ((-1 : Int64), σ34)))) N σ (0 : Int64) (0 : Int32)
theorem wX1_parseDigits_4 {l : Launch} {p : Program} {e : Env} {s : State} {m : MethodId} {args : Array Value} {below : List Frame} {meth : Method} {c : Code} {D : va_G} {A : Nat → Prop} {ad : Nat → Nat} {ca : Nat → ClassId} {rf : Int64} {σf : St} (C : Cb p s m args meth c RX1 cX1_parseDigits 4) (X : Cx s D A (wX ad ca) (tyX ca)) (hr : meth.sig.returnType = (some .long)) {N : Nat} {q51 : St → Int64 → Int32 → Option (Int64 × St)} (hq51 : ∀ (σ : St) (y0 : Int64) (y1 : Int32), q51 σ y0 y1 = some (rf, σf) → bW p l e rmX1_parseDigits s m args below meth c 0 0 (MQ below (Qw D (wX ad ca) σf (some (.long rf)) A) args s 0 0 A) 4 (wd D A (wX ad ca) s σ) 51 [(0, .ref (ad 1)), (1, .long y0), (3, .int y1)] []) : ∀ n : Nat, ∀ (σ : St) (y0 : Int64) (y1 : Int32), fX1_parseDigits_4 N q51 n σ y0 y1 = some (rf, σf) → bW p l e rmX1_parseDigits s m args below meth c 0 0 (MQ below (Qw D (wX ad ca) σf (some (.long rf)) A) args s 0 0 A) 4 (wd D A (wX ad ca) s σ) 4 [(0, .ref (ad 1)), (1, .long y0), (3, .int y1)] [] := by
  intro n
  induction n with
  | zero => intro σ4 x2 x3 h5; exact nn h5
  | succ n hq4 =>
    intro σ4 x2 x3 h5
    replace h5 : fX1_parseDigits_4b N q51 (fX1_parseDigits_4 N q51 n) σ4 x2 x3 = some (rf, σf) := h5
    refine b_iload_n C 2 dX1_parseDigits_4 rfl rfl ?_
    refine b_bipush (v := (6 : Int32)) C dX1_parseDigits_5 (by decide) ?_
    refine b_icmp_ge (tgt := 51) C dX1_parseDigits_7 (by decide) (fun c6 => ?_) (fun c6 => ?_)
    · have h7 := ipos h5 c6; clear h5
      exact b_sub [0, 1, 2] rfl (hq51 _ _ _ h7)
    have h8 := ineg h5 c6; clear h5
    refine b_aload_n C 0 dX1_parseDigits_10 rfl rfl ?_
    obtain ⟨r11, σ10, ec9, h9⟩ := bd2_inv h8; clear h8
    refine b_callWi (rest := []) C (sameX ad ca) X dX1_parseDigits_11 (ctX1_characterNext ec9) mf_X1_characterNext mi_X1_characterNext kl_X1_56 1 rfl rfl rfl rfl ⟨rfl, rfl⟩ ⟨Nat.le_of_ble_eq_true rfl, Nat.le_of_ble_eq_true rfl⟩ ⟨Nat.zero_le _, Nat.zero_le _⟩ rfl (Nat.le_of_ble_eq_true rfl) ?_
    obtain ⟨r13, ec12, h12⟩ := bd0_inv h9; clear h9
    refine b_callSi (rest := []) C dX1_parseDigits_14 (ctX1_isDigit ec12) mf_X1_isDigit ms_X1_isDigit kl_X1_60 rfl ⟨rfl, rfl⟩ ⟨Nat.le_of_ble_eq_true rfl, Nat.le_of_ble_eq_true rfl⟩ ⟨Nat.zero_le _, Nat.zero_le _⟩ rfl (Nat.le_of_ble_eq_true rfl) ?_
    refine b_if_eq (tgt := 51) C dX1_parseDigits_17 (by decide) (fun c14 => ?_) (fun c14 => ?_)
    · have h15 := ipos h12 c14; clear h12
      exact b_sub [0, 1, 2] rfl (hq51 _ _ _ h15)
    have h16 := ineg h12 c14; clear h12
    refine b_lload_n C 1 dX1_parseDigits_20 rfl rfl ?_
    refine b_ldc2 (v := (10 : Int64)) C dX1_parseDigits_21 kc_X1_63 ?_
    refine b_lmul C dX1_parseDigits_24 ?_
    refine b_aload_n C 0 dX1_parseDigits_25 rfl rfl ?_
    obtain ⟨r19, σ18, ec17, h17⟩ := bd2_inv h16; clear h16
    refine b_callWi (rest := [.long (x2 * (10 : Int64))]) C (sameX ad ca) X dX1_parseDigits_26 (ctX1_characterNext ec17) mf_X1_characterNext mi_X1_characterNext kl_X1_56 1 rfl rfl rfl rfl ⟨rfl, rfl⟩ ⟨Nat.le_of_ble_eq_true rfl, Nat.le_of_ble_eq_true rfl⟩ ⟨Nat.zero_le _, Nat.zero_le _⟩ rfl (Nat.le_of_ble_eq_true rfl) ?_
    refine b_bipush (v := (48 : Int32)) C dX1_parseDigits_29 (by decide) ?_
    refine b_isub C dX1_parseDigits_31 ?_
    refine b_i2l C dX1_parseDigits_32 ?_
    refine b_ladd C dX1_parseDigits_33 ?_
    obtain ⟨x20, ex20, h21⟩ := lt1_inv h17; clear h17
    refine b_nmJ ex20 ?_
    refine b_lstore_n (lv' := [(1, .long x20), (0, .ref (ad 1)), (3, .int x3)]) C dX1_parseDigits_34 rfl (by decide) rfl ?_
    obtain ⟨x22, ex22, h23⟩ := lt1_inv h21; clear h21
    refine b_iinc (v := x22) (lv' := [(3, .int x22), (1, .long x20), (0, .ref (ad 1))]) C 2 dX1_parseDigits_35 rfl (by rw [ex22]; rfl) (by decide) rfl ?_
    refine b_aload_n C 2 dX1_parseDigits_38 rfl rfl ?_
    refine b_dup C dX1_parseDigits_39 rfl ?_
    refine gX1_26 C X dX1_parseDigits_40 ?_
    refine b_iconst (v := (1 : Int32)) C dX1_parseDigits_43 (by decide) ?_
    refine b_iadd C dX1_parseDigits_44 ?_
    refine pX1_26 C X dX1_parseDigits_45 ?_
    obtain ⟨σ24, eσ24, h25⟩ := lt1_inv h23; clear h23
    refine b_nmS eσ24 ?_
    refine b_goto (tgt := 4) C dX1_parseDigits_48 (by decide) ?_
    exact b_sub [2, 1, 0] rfl (hq4 _ _ _ h25)
theorem ctX1_parseDigits {l : Launch} {ad : Nat → Nat} {ca : Nat → ClassId} {N : Nat} {σ : St} {rf : Int64} {σf : St} (h : fX1_parseDigits N σ = some (rf, σf)) : Cw l yX1_parseDigits cX1_parseDigits 4 (some .long) rmX1_parseDigits [.ref (ad 1)] (wX ad ca) (tyX ca) σ (some (.long rf)) σf := by
  refine Cw_of (by decide) (sameX ad ca) (Nat.le_of_ble_eq_true rfl) ?_
  intro p e s m args below meth c D A C X hr
  replace C : Cb p s m args meth c RX1 cX1_parseDigits 4 := C
  have h1 := h; clear h
  refine b_sub (lv' := [(0, .ref (ad 1))]) [0] rfl ?_
  refine b_lconst (v := (0 : Int64)) C dX1_parseDigits_0 (by decide) ?_
  refine b_lstore_n (lv' := [(1, .long (0 : Int64)), (0, .ref (ad 1))]) C dX1_parseDigits_1 rfl (by decide) rfl ?_
  refine b_iconst (v := (0 : Int32)) C dX1_parseDigits_2 (by decide) ?_
  refine b_istore_n (lv' := [(3, .int (0 : Int32)), (1, .long (0 : Int64)), (0, .ref (ad 1))]) C dX1_parseDigits_3 rfl (by decide) rfl ?_
  refine b_sub [2, 1, 0] rfl (wX1_parseDigits_4 C X hr (fun σ28 x26 x27 h29 => ?_) _ _ _ _ h1)
  refine b_iload_n C 2 dX1_parseDigits_51 rfl rfl ?_
  refine b_if_eq (tgt := 65) C dX1_parseDigits_52 (by decide) (fun c30 => ?_) (fun c30 => ?_)
  · have h31 := ipos h29 c30; clear h29
    refine b_ldc2 (v := (-1 : Int64)) C dX1_parseDigits_65 kc_X1_44 ?_
    refine b_goto (tgt := 72) C dX1_parseDigits_68 (by decide) ?_
    obtain ⟨rfl, rfl⟩ := so2 h31
    exact b_lret C dX1_parseDigits_72 hr
  have h32 := ineg h29 c30; clear h29
  refine b_aload_n C 0 dX1_parseDigits_55 rfl rfl ?_
  obtain ⟨r35, σ34, ec33, h33⟩ := bd2_inv h32; clear h32
  refine b_callWi (rest := []) C (sameX ad ca) X dX1_parseDigits_56 (ctX1_characterNext ec33) mf_X1_characterNext mi_X1_characterNext kl_X1_56 1 rfl rfl rfl rfl ⟨rfl, rfl⟩ ⟨Nat.le_of_ble_eq_true rfl, Nat.le_of_ble_eq_true rfl⟩ ⟨Nat.zero_le _, Nat.zero_le _⟩ rfl (Nat.le_of_ble_eq_true rfl) ?_
  obtain ⟨r37, ec36, h36⟩ := bd0_inv h33; clear h33
  refine b_callSi (rest := []) C dX1_parseDigits_59 (ctX1_isDigit ec36) mf_X1_isDigit ms_X1_isDigit kl_X1_60 rfl ⟨rfl, rfl⟩ ⟨Nat.le_of_ble_eq_true rfl, Nat.le_of_ble_eq_true rfl⟩ ⟨Nat.zero_le _, Nat.zero_le _⟩ rfl (Nat.le_of_ble_eq_true rfl) ?_
  refine b_if_eq (tgt := 71) C dX1_parseDigits_62 (by decide) (fun c38 => ?_) (fun c38 => ?_)
  · have h39 := ipos h36 c38; clear h36
    refine b_lload_n C 1 dX1_parseDigits_71 rfl rfl ?_
    obtain ⟨rfl, rfl⟩ := so2 h39
    exact b_lret C dX1_parseDigits_72 hr
  have h40 := ineg h36 c38; clear h36
  refine b_ldc2 (v := (-1 : Int64)) C dX1_parseDigits_65 kc_X1_44 ?_
  refine b_goto (tgt := 72) C dX1_parseDigits_68 (by decide) ?_
  obtain ⟨rfl, rfl⟩ := so2 h40
  exact b_lret C dX1_parseDigits_72 hr
def rmX1_skip : Room := { frames := 1, cells := 0, slots := 0, locals := 21 }
def fX1_skip (σ : St) (a1 : Int32) : Option (Int32 × St) :=
  bd2 (fX1_characterNext σ) fun r5 σ4 =>
  if r5 = a1 then (
  lt1 (sI σ4 6 ((gI σ4 6) + (1 : Int32))) fun σ9 =>
  some ((1 : Int32), σ9))
  else (
  some ((0 : Int32), σ4))
theorem ctX1_skip {l : Launch} {ad : Nat → Nat} {ca : Nat → ClassId} {σ : St} {a1 : Int32} {rf : Int32} {σf : St} (h : fX1_skip σ a1 = some (rf, σf)) : Cw l yX1_skip cX1_skip 2 (some .boolean) rmX1_skip [.ref (ad 1), .int a1] (wX ad ca) (tyX ca) σ (some (.int rf)) σf := by
  refine Cw_of (by decide) (sameX ad ca) (Nat.le_of_ble_eq_true rfl) ?_
  intro p e s m args below meth c D A C X hr
  replace C : Cb p s m args meth c RX1 cX1_skip 2 := C
  have h2 := h; clear h
  refine b_sub (lv' := [(0, .ref (ad 1)), (1, .int a1)]) [0, 1] rfl ?_
  refine b_aload_n C 0 dX1_skip_0 rfl rfl ?_
  obtain ⟨r5, σ4, ec3, h3⟩ := bd2_inv h2; clear h2
  refine b_callWi (rest := []) C (sameX ad ca) X dX1_skip_1 (ctX1_characterNext ec3) mf_X1_characterNext mi_X1_characterNext kl_X1_56 1 rfl rfl rfl rfl ⟨rfl, rfl⟩ ⟨Nat.le_of_ble_eq_true rfl, Nat.le_of_ble_eq_true rfl⟩ ⟨Nat.zero_le _, Nat.zero_le _⟩ rfl (Nat.le_of_ble_eq_true rfl) ?_
  refine b_iload_n C 1 dX1_skip_4 rfl rfl ?_
  refine b_icmp_eq (tgt := 10) C dX1_skip_5 (by decide) (fun c6 => ?_) (fun c6 => ?_)
  · have h7 := ipos h3 c6; clear h3
    refine b_aload_n C 0 dX1_skip_10 rfl rfl ?_
    refine b_dup C dX1_skip_11 rfl ?_
    refine gX1_26 C X dX1_skip_12 ?_
    refine b_iconst (v := (1 : Int32)) C dX1_skip_15 (by decide) ?_
    refine b_iadd C dX1_skip_16 ?_
    refine pX1_26 C X dX1_skip_17 ?_
    obtain ⟨σ9, eσ9, h10⟩ := lt1_inv h7; clear h7
    refine b_nmS eσ9 ?_
    refine b_iconst (v := (1 : Int32)) C dX1_skip_20 (by decide) ?_
    obtain ⟨rfl, rfl⟩ := so2 h10
    exact b_zret C dX1_skip_21 hr rfl
  have h8 := ineg h3 c6; clear h3
  refine b_iconst (v := (0 : Int32)) C dX1_skip_8 (by decide) ?_
  obtain ⟨rfl, rfl⟩ := so2 h8
  exact b_zret C dX1_skip_9 hr rfl
def rmX2_inUnits : Room := { frames := 0, cells := 0, slots := 0, locals := 0 }
def fX2_inUnits (a1 : Int64) (a2 : Int64) (a3 : Int64) : Option Int64 :=
  if a2 ≤ (0 : Int64) then (
  some (0 : Int64))
  else (
  if a2 = (0 : Int64) then none else
  some ((a1 * a3) / a2))
theorem ctX2_inUnits {l : Launch} {a1 : Int64} {a2 : Int64} {a3 : Int64} {rf : Int64} (h : fX2_inUnits a1 a2 a3 = some rf) : Cs l yX2_inUnits cX2_inUnits 6 (some .long) rmX2_inUnits [.long a1, .long a2, .long a3] (some (.long rf)) := by
  refine Cs_of (by decide +kernel) (Nat.le_of_ble_eq_true rfl) ?_
  intro p e s m args below meth c C hr
  replace C : Cb p s m args meth c RX2 cX2_inUnits 6 := C
  have h4 := h; clear h
  refine b_sub (lv' := [(0, .long a1), (2, .long a2), (4, .long a3)]) [0, 1, 2] rfl ?_
  refine b_lload_n C 1 dX2_inUnits_0 rfl rfl ?_
  refine b_lconst (v := (0 : Int64)) C dX2_inUnits_1 (by decide) ?_
  refine b_lc_le (tgt := 15) C dX2_inUnits_2 dX2_inUnits_3 (by decide) (fun c5 => ?_) (fun c5 => ?_)
  · have h6 := ipos h4 c5; clear h4
    refine b_lconst (v := (0 : Int64)) C dX2_inUnits_15 (by decide) ?_
    obtain rfl := so1 h6
    exact s_lret C dX2_inUnits_16 hr
  have h7 := ineg h4 c5; clear h4
  refine b_lload_n C 0 dX2_inUnits_6 rfl rfl ?_
  refine b_lload C 2 dX2_inUnits_7 rfl ?_
  refine b_lmul C dX2_inUnits_9 ?_
  refine b_lload_n C 1 dX2_inUnits_10 rfl rfl ?_
  obtain ⟨g9, h8⟩ := gdn h7; clear h7
  refine b_ldiv C dX2_inUnits_11 g9 ?_
  refine b_goto (tgt := 16) C dX2_inUnits_12 (by decide) ?_
  obtain rfl := so1 h8
  exact s_lret C dX2_inUnits_16 hr
def rmX2_isOnGrid : Room := { frames := 0, cells := 0, slots := 0, locals := 0 }
def fX2_isOnGrid (a1 : Int64) (a2 : Int64) (a3 : Int64) : Option Int32 :=
  if a2 ≤ (0 : Int64) then (
  some (0 : Int32))
  else (
  if a2 = (0 : Int64) then none else
  if ((a1 * a3) - (a1 * a3) / a2 * a2) = (0 : Int64) then (
  some (1 : Int32))
  else (
  some (0 : Int32)))
theorem ctX2_isOnGrid {l : Launch} {a1 : Int64} {a2 : Int64} {a3 : Int64} {rf : Int32} (h : fX2_isOnGrid a1 a2 a3 = some rf) : Cs l yX2_isOnGrid cX2_isOnGrid 6 (some .boolean) rmX2_isOnGrid [.long a1, .long a2, .long a3] (some (.int rf)) := by
  refine Cs_of (by decide +kernel) (Nat.le_of_ble_eq_true rfl) ?_
  intro p e s m args below meth c C hr
  replace C : Cb p s m args meth c RX2 cX2_isOnGrid 6 := C
  have h4 := h; clear h
  refine b_sub (lv' := [(0, .long a1), (2, .long a2), (4, .long a3)]) [0, 1, 2] rfl ?_
  refine b_lload_n C 1 dX2_isOnGrid_0 rfl rfl ?_
  refine b_lconst (v := (0 : Int64)) C dX2_isOnGrid_1 (by decide) ?_
  refine b_lc_le (tgt := 21) C dX2_isOnGrid_2 dX2_isOnGrid_3 (by decide) (fun c5 => ?_) (fun c5 => ?_)
  · have h6 := ipos h4 c5; clear h4
    refine b_iconst (v := (0 : Int32)) C dX2_isOnGrid_21 (by decide) ?_
    obtain rfl := so1 h6
    exact s_zret C dX2_isOnGrid_22 hr rfl
  have h7 := ineg h4 c5; clear h4
  refine b_lload_n C 0 dX2_isOnGrid_6 rfl rfl ?_
  refine b_lload C 2 dX2_isOnGrid_7 rfl ?_
  refine b_lmul C dX2_isOnGrid_9 ?_
  refine b_lload_n C 1 dX2_isOnGrid_10 rfl rfl ?_
  obtain ⟨g9, h8⟩ := gdn h7; clear h7
  refine b_lrem C dX2_isOnGrid_11 g9 ?_
  refine b_lconst (v := (0 : Int64)) C dX2_isOnGrid_12 (by decide) ?_
  refine b_lc_ne (tgt := 21) C dX2_isOnGrid_13 dX2_isOnGrid_14 (by decide) (fun c10 => ?_) (fun c10 => ?_)
  · have h11 := ineg h8 c10; clear h8
    refine b_iconst (v := (0 : Int32)) C dX2_isOnGrid_21 (by decide) ?_
    obtain rfl := so1 h11
    exact s_zret C dX2_isOnGrid_22 hr rfl
  have h12 := ipos h8 c10; clear h8
  refine b_iconst (v := (1 : Int32)) C dX2_isOnGrid_17 (by decide) ?_
  refine b_goto (tgt := 22) C dX2_isOnGrid_18 (by decide) ?_
  obtain rfl := so1 h12
  exact s_zret C dX2_isOnGrid_22 hr rfl
def rmX1_parseNumber : Room := { frames := 2, cells := 0, slots := 0, locals := 44 }
def fX1_parseNumber_64 (N : Nat) (σ25 : St) (x20 : Int32) (x21 : Int32) (x22 : Int32) (x23 : Int64) (x24 : Int64) : Option (Int32 × St) :=
  if ((1000 : Int64) * x24) < x23 then (
  some (x21, σ25))
  else (
  bd0 (fX2_isOnGrid x23 x24 (x20.toInt64)) fun r31 =>
  if r31 = (0 : Int32) then (
  some (x21, σ25))
  else (
  bd0 (fX2_inUnits x23 x24 (x20.toInt64)) fun r36 =>
  if x22 = (0 : Int32) then (
  lt1 (sJ σ25 0 r36) fun σ40 =>
  some ((-1 : Int32), σ40))
  else (
  lt1 (sJ σ25 0 (-r36)) fun σ42 =>
  some ((-1 : Int32), σ42))))
def fX1_parseNumber (N : Nat) (σ : St) (a1 : Int32) : Option (Int32 × St) :=
  lt1 (gI σ 6) fun x3 =>
  bd2 (fX1_skip σ (45 : Int32)) fun r7 σ6 =>
  bd2 (fX1_parseDigits N σ6) fun r10 σ9 =>
  if r10 = (-1 : Int64) then (
  some ((gI σ9 6), σ9))
  else (
  bd2 (fX1_skip σ9 (47 : Int32)) fun r16 σ15 =>
  if r16 = (0 : Int32) then (
  fX1_parseNumber_64 N σ15 a1 x3 r7 r10 (1 : Int64))
  else (
  bd2 (fX1_parseDigits N σ15) fun r46 σ45 =>
  if r46 = (-1 : Int64) then (
  some ((gI σ45 6), σ45))
  else (
  fX1_parseNumber_64 N σ45 a1 x3 r7 r10 r46)))
theorem wX1_parseNumber_64 {l : Launch} {p : Program} {e : Env} {s : State} {m : MethodId} {args : Array Value} {below : List Frame} {meth : Method} {c : Code} {D : va_G} {A : Nat → Prop} {ad : Nat → Nat} {ca : Nat → ClassId} {rf : Int32} {σf : St} (C : Cb p s m args meth c RX1 cX1_parseNumber 10) (X : Cx s D A (wX ad ca) (tyX ca)) (hr : meth.sig.returnType = (some .int)) {N : Nat} : ∀ (σ : St) (y0 : Int32) (y1 : Int32) (y2 : Int32) (y3 : Int64) (y4 : Int64), fX1_parseNumber_64 N σ y0 y1 y2 y3 y4 = some (rf, σf) → bW p l e rmX1_parseNumber s m args below meth c 0 0 (MQ below (Qw D (wX ad ca) σf (some (.int rf)) A) args s 0 0 A) 10 (wd D A (wX ad ca) s σ) 64 [(0, .ref (ad 1)), (1, .int y0), (2, .int y1), (3, .int y2), (4, .long y3), (6, .long y4)] [] := by
  intro σ25 x20 x21 x22 x23 x24 h26
  refine b_lload C 4 dX1_parseNumber_64 rfl ?_
  refine b_ldc2 (v := (1000 : Int64)) C dX1_parseNumber_66 kc_X1_46 ?_
  refine b_lload C 5 dX1_parseNumber_69 rfl ?_
  refine b_lmul C dX1_parseNumber_71 ?_
  refine b_lc_gt (tgt := 88) C dX1_parseNumber_72 dX1_parseNumber_73 (by decide) (fun c27 => ?_) (fun c27 => ?_)
  · have h28 := ipos h26 c27; clear h26
    refine b_iload_n C 2 dX1_parseNumber_88 rfl rfl ?_
    obtain ⟨rfl, rfl⟩ := so2 h28
    exact b_iret C dX1_parseNumber_89 hr
  have h29 := ineg h26 c27; clear h26
  refine b_lload C 4 dX1_parseNumber_76 rfl ?_
  refine b_lload C 5 dX1_parseNumber_78 rfl ?_
  refine b_iload_n C 1 dX1_parseNumber_80 rfl rfl ?_
  refine b_i2l C dX1_parseNumber_81 ?_
  obtain ⟨r31, ec30, h30⟩ := bd0_inv h29; clear h29
  refine b_callSNi (rest := []) C dX1_parseNumber_82 (ctX2_isOnGrid ec30) mf_X2_isOnGrid ms_X2_isOnGrid X.1.2.2.1 rfl ⟨rfl, rfl⟩ ⟨Nat.le_of_ble_eq_true rfl, Nat.le_of_ble_eq_true rfl⟩ ⟨Nat.zero_le _, Nat.zero_le _⟩ rfl (Nat.le_of_ble_eq_true rfl) ?_
  refine b_if_ne (tgt := 90) C dX1_parseNumber_85 (by decide) (fun c32 => ?_) (fun c32 => ?_)
  · have h33 := ineg h30 c32; clear h30
    refine b_lload C 4 dX1_parseNumber_90 rfl ?_
    refine b_lload C 5 dX1_parseNumber_92 rfl ?_
    refine b_iload_n C 1 dX1_parseNumber_94 rfl rfl ?_
    refine b_i2l C dX1_parseNumber_95 ?_
    obtain ⟨r36, ec35, h35⟩ := bd0_inv h33; clear h33
    refine b_callSNl (rest := []) C dX1_parseNumber_96 (ctX2_inUnits ec35) mf_X2_inUnits ms_X2_inUnits X.1.2.2.2 rfl ⟨rfl, rfl⟩ ⟨Nat.le_of_ble_eq_true rfl, Nat.le_of_ble_eq_true rfl⟩ ⟨Nat.zero_le _, Nat.zero_le _⟩ rfl (Nat.le_of_ble_eq_true rfl) ?_
    refine b_lstore (lv' := [(8, .long r36), (0, .ref (ad 1)), (1, .int x20), (2, .int x21), (3, .int x22), (4, .long x23), (6, .long x24)]) C dX1_parseNumber_99 (by decide) rfl ?_
    refine b_aload_n C 1 dX1_parseNumber_101 rfl rfl ?_
    refine b_iload_n C 4 dX1_parseNumber_102 rfl rfl ?_
    refine b_if_eq (tgt := 112) C dX1_parseNumber_103 (by decide) (fun c37 => ?_) (fun c37 => ?_)
    · have h38 := ipos h35 c37; clear h35
      refine b_lload C 0 dX1_parseNumber_112 rfl ?_
      refine pX1_33 C X dX1_parseNumber_114 ?_
      obtain ⟨σ40, eσ40, h41⟩ := lt1_inv h38; clear h38
      refine b_nmS eσ40 ?_
      refine b_iconst (v := (-1 : Int32)) C dX1_parseNumber_117 (by decide) ?_
      obtain ⟨rfl, rfl⟩ := so2 h41
      exact b_iret C dX1_parseNumber_118 hr
    have h39 := ineg h35 c37; clear h35
    refine b_lload C 0 dX1_parseNumber_106 rfl ?_
    refine b_lneg C dX1_parseNumber_108 ?_
    refine b_goto (tgt := 114) C dX1_parseNumber_109 (by decide) ?_
    refine pX1_33 C X dX1_parseNumber_114 ?_
    obtain ⟨σ42, eσ42, h43⟩ := lt1_inv h39; clear h39
    refine b_nmS eσ42 ?_
    refine b_iconst (v := (-1 : Int32)) C dX1_parseNumber_117 (by decide) ?_
    obtain ⟨rfl, rfl⟩ := so2 h43
    exact b_iret C dX1_parseNumber_118 hr
  have h34 := ipos h30 c32; clear h30
  refine b_iload_n C 2 dX1_parseNumber_88 rfl rfl ?_
  obtain ⟨rfl, rfl⟩ := so2 h34
  exact b_iret C dX1_parseNumber_89 hr
theorem ctX1_parseNumber {l : Launch} {ad : Nat → Nat} {ca : Nat → ClassId} {N : Nat} {σ : St} {a1 : Int32} {rf : Int32} {σf : St} (h : fX1_parseNumber N σ a1 = some (rf, σf)) : Cw l yX1_parseNumber cX1_parseNumber 10 (some .int) rmX1_parseNumber [.ref (ad 1), .int a1] (wX ad ca) (tyX ca) σ (some (.int rf)) σf := by
  refine Cw_of (by decide) (sameX ad ca) (Nat.le_of_ble_eq_true rfl) ?_
  intro p e s m args below meth c D A C X hr
  replace C : Cb p s m args meth c RX1 cX1_parseNumber 10 := C
  have h2 := h; clear h
  refine b_sub (lv' := [(0, .ref (ad 1)), (1, .int a1)]) [0, 1] rfl ?_
  refine b_aload_n C 0 dX1_parseNumber_0 rfl rfl ?_
  refine gX1_26 C X dX1_parseNumber_1 ?_
  obtain ⟨x3, ex3, h4⟩ := lt1_inv h2; clear h2
  refine b_nmI ex3 ?_
  refine b_istore_n (lv' := [(2, .int x3), (0, .ref (ad 1)), (1, .int a1)]) C dX1_parseNumber_4 rfl (by decide) rfl ?_
  refine b_aload_n C 1 dX1_parseNumber_5 rfl rfl ?_
  refine b_bipush (v := (45 : Int32)) C dX1_parseNumber_6 (by decide) ?_
  obtain ⟨r7, σ6, ec5, h5⟩ := bd2_inv h4; clear h4
  refine b_callWi (rest := []) C (sameX ad ca) X dX1_parseNumber_8 (ctX1_skip ec5) mf_X1_skip mi_X1_skip kl_X1_36 1 rfl rfl rfl rfl ⟨rfl, rfl⟩ ⟨Nat.le_of_ble_eq_true rfl, Nat.le_of_ble_eq_true rfl⟩ ⟨Nat.zero_le _, Nat.zero_le _⟩ rfl (Nat.le_of_ble_eq_true rfl) ?_
  refine b_istore_n (lv' := [(3, .int r7), (2, .int x3), (0, .ref (ad 1)), (1, .int a1)]) C dX1_parseNumber_11 rfl (by decide) rfl ?_
  refine b_aload_n C 2 dX1_parseNumber_12 rfl rfl ?_
  obtain ⟨r10, σ9, ec8, h8⟩ := bd2_inv h5; clear h5
  refine b_callWl (rest := []) C (sameX ad ca) X dX1_parseNumber_13 (ctX1_parseDigits ec8) mf_X1_parseDigits mi_X1_parseDigits kl_X1_40 1 rfl rfl rfl rfl ⟨rfl, rfl⟩ ⟨Nat.le_of_ble_eq_true rfl, Nat.le_of_ble_eq_true rfl⟩ ⟨Nat.zero_le _, Nat.zero_le _⟩ rfl (Nat.le_of_ble_eq_true rfl) ?_
  refine b_lstore (lv' := [(4, .long r10), (3, .int r7), (2, .int x3), (0, .ref (ad 1)), (1, .int a1)]) C dX1_parseNumber_16 (by decide) rfl ?_
  refine b_lload C 0 dX1_parseNumber_18 rfl ?_
  refine b_ldc2 (v := (-1 : Int64)) C dX1_parseNumber_20 kc_X1_44 ?_
  refine b_lc_ne (tgt := 32) C dX1_parseNumber_23 dX1_parseNumber_24 (by decide) (fun c11 => ?_) (fun c11 => ?_)
  · have h12 := ineg h8 c11; clear h8
    refine b_lconst (v := (1 : Int64)) C dX1_parseNumber_32 (by decide) ?_
    refine b_lstore (lv' := [(6, .long (1 : Int64)), (4, .long r10), (3, .int r7), (2, .int x3), (0, .ref (ad 1)), (1, .int a1)]) C dX1_parseNumber_33 (by decide) rfl ?_
    refine b_aload_n C 4 dX1_parseNumber_35 rfl rfl ?_
    refine b_bipush (v := (47 : Int32)) C dX1_parseNumber_36 (by decide) ?_
    obtain ⟨r16, σ15, ec14, h14⟩ := bd2_inv h12; clear h12
    refine b_callWi (rest := []) C (sameX ad ca) X dX1_parseNumber_38 (ctX1_skip ec14) mf_X1_skip mi_X1_skip kl_X1_36 1 rfl rfl rfl rfl ⟨rfl, rfl⟩ ⟨Nat.le_of_ble_eq_true rfl, Nat.le_of_ble_eq_true rfl⟩ ⟨Nat.zero_le _, Nat.zero_le _⟩ rfl (Nat.le_of_ble_eq_true rfl) ?_
    refine b_if_eq (tgt := 64) C dX1_parseNumber_41 (by decide) (fun c17 => ?_) (fun c17 => ?_)
    · have h18 := ipos h14 c17; clear h14
      exact b_sub [4, 5, 3, 2, 1, 0] rfl (wX1_parseNumber_64 C X hr _ _ _ _ _ _ h18)
    have h19 := ineg h14 c17; clear h14
    refine b_aload_n C 4 dX1_parseNumber_44 rfl rfl ?_
    obtain ⟨r46, σ45, ec44, h44⟩ := bd2_inv h19; clear h19
    refine b_callWl (rest := []) C (sameX ad ca) X dX1_parseNumber_45 (ctX1_parseDigits ec44) mf_X1_parseDigits mi_X1_parseDigits kl_X1_40 1 rfl rfl rfl rfl ⟨rfl, rfl⟩ ⟨Nat.le_of_ble_eq_true rfl, Nat.le_of_ble_eq_true rfl⟩ ⟨Nat.zero_le _, Nat.zero_le _⟩ rfl (Nat.le_of_ble_eq_true rfl) ?_
    refine b_lstore (lv' := [(6, .long r46), (4, .long r10), (3, .int r7), (2, .int x3), (0, .ref (ad 1)), (1, .int a1)]) C dX1_parseNumber_48 (by decide) rfl ?_
    refine b_lload C 0 dX1_parseNumber_50 rfl ?_
    refine b_ldc2 (v := (-1 : Int64)) C dX1_parseNumber_52 kc_X1_44 ?_
    refine b_lc_ne (tgt := 64) C dX1_parseNumber_55 dX1_parseNumber_56 (by decide) (fun c47 => ?_) (fun c47 => ?_)
    · have h48 := ineg h44 c47; clear h44
      exact b_sub [4, 5, 3, 2, 1, 0] rfl (wX1_parseNumber_64 C X hr _ _ _ _ _ _ h48)
    have h49 := ipos h44 c47; clear h44
    refine b_aload_n C 4 dX1_parseNumber_59 rfl rfl ?_
    refine gX1_26 C X dX1_parseNumber_60 ?_
    obtain ⟨rfl, rfl⟩ := so2 h49
    exact b_iret C dX1_parseNumber_63 hr
  have h13 := ipos h8 c11; clear h8
  refine b_aload_n C 3 dX1_parseNumber_27 rfl rfl ?_
  refine gX1_26 C X dX1_parseNumber_28 ?_
  obtain ⟨rfl, rfl⟩ := so2 h13
  exact b_iret C dX1_parseNumber_31 hr
