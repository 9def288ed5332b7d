def rmX2_asFraction : Room := { frames := 2, cells := 0, slots := 0, locals := 56 }
def fX2_asFraction (N : Nat) (σ : St) (a1 : Int64) (a2 : Int32) : Option (Int64 × St) :=
  bd0 (fX2_inLowestTerms N a1 ((gI σ 2).toInt64) a2) fun r5 =>
  some (r5, σ)
theorem ctX2_asFraction {l : Launch} {ad : Nat → Nat} {ca : Nat → ClassId} {N : Nat} {σ : St} {a1 : Int64} {a2 : Int32} {rf : Int64} {σf : St} (h : fX2_asFraction N σ a1 a2 = some (rf, σf)) : Cw l yX2_asFraction cX2_asFraction 4 (some .long) rmX2_asFraction [.ref (ad 0), .long a1, .int a2] (wX ad ca) (tyX ca) σ (some (.long rf)) σf := by
  refine Cw_of (by decide) (sameX ad ca) (Nat.le_of_ble_eq_true rfl) ?_
  intro p e s m args below meth c D A C X hr
  replace C : Cb p s m args meth c RX2 cX2_asFraction 4 := C
  have h3 := h; clear h
  refine b_sub (lv' := [(0, .ref (ad 0)), (1, .long a1), (3, .int a2)]) [0, 1, 2] rfl ?_
  refine b_lload_n C 1 dX2_asFraction_0 rfl rfl ?_
  refine b_aload_n C 0 dX2_asFraction_1 rfl rfl ?_
  refine gX2_83 C X dX2_asFraction_2 ?_
  refine b_i2l C dX2_asFraction_5 ?_
  refine b_iload_n C 2 dX2_asFraction_6 rfl rfl ?_
  obtain ⟨r5, ec4, h4⟩ := bd0_inv h3; clear h3
  refine b_callSl (rest := []) C dX2_asFraction_7 (ctX2_inLowestTerms ec4) mf_X2_inLowestTerms ms_X2_inLowestTerms kl_X2_158 rfl ⟨rfl, rfl⟩ ⟨Nat.le_of_ble_eq_true rfl, Nat.le_of_ble_eq_true rfl⟩ ⟨Nat.zero_le _, Nat.zero_le _⟩ rfl (Nat.le_of_ble_eq_true rfl) ?_
  obtain ⟨rfl, rfl⟩ := so2 h4
  exact b_lret C dX2_asFraction_10 hr
def rmX2_isNode : Room := { frames := 0, cells := 0, slots := 0, locals := 0 }
def fX2_isNode (σ : St) (a1 : Int32) : Option (Int32 × St) :=
  if a1 < (0 : Int32) then (
  some ((0 : Int32), σ))
  else (
  if (gI σ 0) ≤ a1 then (
  some ((0 : Int32), σ))
  else (
  some ((1 : Int32), σ)))
theorem ctX2_isNode {l : Launch} {ad : Nat → Nat} {ca : Nat → ClassId} {σ : St} {a1 : Int32} {rf : Int32} {σf : St} (h : fX2_isNode σ a1 = some (rf, σf)) : Cw l yX2_isNode cX2_isNode 2 (some .boolean) rmX2_isNode [.ref (ad 0), .int a1] (wX ad ca) (tyX ca) σ (some (.int rf)) σf := by
  refine Cw_of (by decide) (sameX ad ca) (Nat.le_of_ble_eq_true rfl) ?_
  intro p e s m args below meth c D A C X hr
  replace C : Cb p s m args meth c RX2 cX2_isNode 2 := C
  have h2 := h; clear h
  refine b_sub (lv' := [(0, .ref (ad 0)), (1, .int a1)]) [0, 1] rfl ?_
  refine b_iload_n C 1 dX2_isNode_0 rfl rfl ?_
  refine b_if_lt (tgt := 16) C dX2_isNode_1 (by decide) (fun c3 => ?_) (fun c3 => ?_)
  · have h4 := ipos h2 c3; clear h2
    refine b_iconst (v := (0 : Int32)) C dX2_isNode_16 (by decide) ?_
    obtain ⟨rfl, rfl⟩ := so2 h4
    exact b_zret C dX2_isNode_17 hr rfl
  have h5 := ineg h2 c3; clear h2
  refine b_iload_n C 1 dX2_isNode_4 rfl rfl ?_
  refine b_aload_n C 0 dX2_isNode_5 rfl rfl ?_
  refine gX2_53 C X dX2_isNode_6 ?_
  refine b_icmp_ge (tgt := 16) C dX2_isNode_9 (by decide) (fun c6 => ?_) (fun c6 => ?_)
  · have h7 := ipos h5 c6; clear h5
    refine b_iconst (v := (0 : Int32)) C dX2_isNode_16 (by decide) ?_
    obtain ⟨rfl, rfl⟩ := so2 h7
    exact b_zret C dX2_isNode_17 hr rfl
  have h8 := ineg h5 c6; clear h5
  refine b_iconst (v := (1 : Int32)) C dX2_isNode_12 (by decide) ?_
  refine b_goto (tgt := 17) C dX2_isNode_13 (by decide) ?_
  obtain ⟨rfl, rfl⟩ := so2 h8
  exact b_zret C dX2_isNode_17 hr rfl
def rmX0_extremeEnd : Room := { frames := 0, cells := 0, slots := 0, locals := 0 }
def fX0_extremeEnd_121 (N : Nat) (b : Nat) (q26 : St → Int32 → Int32 → Int32 → Nat → Int64 → Int32 → Int32 → Option (Int64 × St)) (σ78 : St) (x69 : Int32) (x70 : Int32) (x71 : Int32) (x72 : Nat) (x73 : Int64) (x74 : Int32) (x75 : Int32) (x76 : Int32) (x77 : Int32) : Option (Int64 × St) :=
  if x74 = (0 : Int32) then (
  if isL x72 = false then none else
  if (x76 < 0 ∨ ln x72 ≤ (x76).toNatClampNeg) then none else
  lt1 (gG σ78 (la x72) (x76).toNatClampNeg) fun x87 =>
  lt1 (x75 + (1 : Int32)) fun x89 =>
  q26 σ78 x69 x70 x71 x72 x87 (1 : Int32) x89)
  else (
  if x77 = (0 : Int32) then (
  lt1 (x75 + (1 : Int32)) fun x94 =>
  q26 σ78 x69 x70 x71 x72 x73 (1 : Int32) x94)
  else (
  if isL x72 = false then none else
  if (x76 < 0 ∨ ln x72 ≤ (x76).toNatClampNeg) then none else
  lt1 (gG σ78 (la x72) (x76).toNatClampNeg) fun x100 =>
  lt1 (x75 + (1 : Int32)) fun x102 =>
  q26 σ78 x69 x70 x71 x72 x100 (1 : Int32) x102))
def fX0_extremeEnd_61 (N : Nat) (b : Nat) (q26 : St → Int32 → Int32 → Int32 → Nat → Int64 → Int32 → Int32 → Option (Int64 × St)) (σ42 : St) (x33 : Int32) (x34 : Int32) (x35 : Int32) (x36 : Nat) (x37 : Int64) (x38 : Int32) (x39 : Int32) (x40 : Int32) (x41 : Int32) : Option (Int64 × St) :=
  if x41 = (0 : Int32) then (
  lt1 (x39 + (1 : Int32)) fun x47 =>
  q26 σ42 x33 x34 x35 x36 x37 x38 x47)
  else (
  if x40 < (0 : Int32) then (
  lt1 (x39 + (1 : Int32)) fun x52 =>
  q26 σ42 x33 x34 x35 x36 x37 x38 x52)
  else (
  if isL x36 = false then none else
  if (Int32.ofNat (ln x36)) ≤ x40 then (
  lt1 (x39 + (1 : Int32)) fun x59 =>
  q26 σ42 x33 x34 x35 x36 x37 x38 x59)
  else (
  if x35 = (0 : Int32) then (
  if (x40 < 0 ∨ ln x36 ≤ (x40).toNatClampNeg) then none else
  if x37 ≤ (gG σ42 (la x36) (x40).toNatClampNeg) then (
  fX0_extremeEnd_121 N b q26 σ42 x33 x34 x35 x36 x37 x38 x39 x40 (0 : Int32))
  else (
  fX0_extremeEnd_121 N b q26 σ42 x33 x34 x35 x36 x37 x38 x39 x40 (1 : Int32)))
  else (
  if (x40 < 0 ∨ ln x36 ≤ (x40).toNatClampNeg) then none else
  if (gG σ42 (la x36) (x40).toNatClampNeg) ≤ x37 then (
  fX0_extremeEnd_121 N b q26 σ42 x33 x34 x35 x36 x37 x38 x39 x40 (0 : Int32))
  else (
  fX0_extremeEnd_121 N b q26 σ42 x33 x34 x35 x36 x37 x38 x39 x40 (1 : Int32))))))
def fX0_extremeEnd_26b (N : Nat) (b : Nat) (q154 : St → Int64 → Option (Int64 × St)) (q26 : St → Int32 → Int32 → Int32 → Nat → Int64 → Int32 → Int32 → Option (Int64 × St)) (σ23 : St) (x16 : Int32) (x17 : Int32) (x18 : Int32) (x19 : Nat) (x20 : Int64) (x21 : Int32) (x22 : Int32) : Option (Int64 × St) :=
  if (10 : Int32) ≤ x22 then (
  q154 σ23 x20)
  else (
  lt1 ((x16 * (10 : Int32)) + x22) fun x28 =>
  if ((x17 >>> (x22 &&& 31)) &&& (1 : Int32)) = (1 : Int32) then (
  fX0_extremeEnd_61 N b q26 σ23 x16 x17 x18 x19 x20 x21 x22 x28 (1 : Int32))
  else (
  fX0_extremeEnd_61 N b q26 σ23 x16 x17 x18 x19 x20 x21 x22 x28 (0 : Int32)))
def fX0_extremeEnd_26 (N : Nat) (b : Nat) (q154 : St → Int64 → Option (Int64 × St)) : Nat → St → Int32 → Int32 → Int32 → Nat → Int64 → Int32 → Int32 → Option (Int64 × St)
  | 0, _, _, _, _, _, _, _, _ => none
  | n + 1, σ, x16, x17, x18, x19, x20, x21, x22 => fX0_extremeEnd_26b N b q154 (fX0_extremeEnd_26 N b q154 n) σ x16 x17 x18 x19 x20 x21 x22
def fX0_extremeEnd_15 (N : Nat) (b : Nat) (σ14 : St) (x10 : Int32) (x11 : Int32) (x12 : Int32) (x13 : Nat) : Option (Int64 × St) :=
  fX0_extremeEnd_26 N b (fun σ110 x109 =>
 some (x109, σ110)) N σ14 x10 x11 x12 x13 (0 : Int64) (0 : Int32) (0 : Int32)
def fX0_extremeEnd (N : Nat) (σ : St) (b : Nat) (a1 : Int32) (a2 : Int32) (a3 : Int32) (a4 : Int32) : Option (Int64 × St) :=
  if isT b = false then none else
  if a3 = (0 : Int32) then (
  fX0_extremeEnd_15 N b σ a1 a2 a4 (b + 1))
  else (
  fX0_extremeEnd_15 N b σ a1 a2 a4 (b + 2))
theorem wX0_extremeEnd_121 {l : Launch} {p : Program} {e : Env} {s : State} {m : MethodId} {args : Array Value} {below : List Frame} {meth : Method} {c : Code} {D : va_G} {A : Nat → Prop} {ad : Nat → Nat} {ca : Nat → ClassId} {rf : Int64} {σf : St} (C : Cb p s m args meth c RX0 cX0_extremeEnd 13) (X : Cx s D A (wX ad ca) (tyX ca)) (hr : meth.sig.returnType = (some .long)) {b : Nat} (hb : isT b = true) {N : Nat} {q26 : St → Int32 → Int32 → Int32 → Nat → Int64 → Int32 → Int32 → Option (Int64 × St)} (hq26 : ∀ (σ : St) (y0 : Int32) (y1 : Int32) (y2 : Int32) (y3 : Nat) (y4 : Int64) (y5 : Int32) (y6 : Int32), q26 σ y0 y1 y2 y3 y4 y5 y6 = some (rf, σf) → bW p l e rmX0_extremeEnd s m args below meth c 0 0 (MQ below (Qw D (wX ad ca) σf (some (.long rf)) A) args s 0 0 A) 13 (wd D A (wX ad ca) s σ) 26 [(0, .ref (ad b)), (1, .int y0), (2, .int y1), (4, .int y2), (5, .ref (ad y3)), (6, .long y4), (8, .int y5), (9, .int y6)] []) : ∀ (σ : St) (y0 : Int32) (y1 : Int32) (y2 : Int32) (y3 : Nat) (y4 : Int64) (y5 : Int32) (y6 : Int32) (y7 : Int32) (y8 : Int32), fX0_extremeEnd_121 N b q26 σ y0 y1 y2 y3 y4 y5 y6 y7 y8 = some (rf, σf) → bW p l e rmX0_extremeEnd s m args below meth c 0 0 (MQ below (Qw D (wX ad ca) σf (some (.long rf)) A) args s 0 0 A) 13 (wd D A (wX ad ca) s σ) 121 [(0, .ref (ad b)), (1, .int y0), (2, .int y1), (4, .int y2), (5, .ref (ad y3)), (6, .long y4), (8, .int y5), (9, .int y6), (10, .int y7)] [.int y8] := by
  intro σ78 x69 x70 x71 x72 x73 x74 x75 x76 x77 h79
  refine b_istore (lv' := [(12, .int x77), (0, .ref (ad b)), (1, .int x69), (2, .int x70), (4, .int x71), (5, .ref (ad x72)), (6, .long x73), (8, .int x74), (9, .int x75), (10, .int x76)]) C dX0_extremeEnd_121 (by decide) rfl ?_
  refine b_iload C 7 dX0_extremeEnd_123 rfl ?_
  refine b_if_eq (tgt := 133) C dX0_extremeEnd_125 (by decide) (fun c80 => ?_) (fun c80 => ?_)
  · have h81 := ipos h79 c80; clear h79
    refine b_aload C 5 dX0_extremeEnd_133 rfl ?_
    refine b_iload C 9 dX0_extremeEnd_135 rfl ?_
    obtain ⟨g84, h83⟩ := gdn h81; clear h81
    obtain ⟨g86, h85⟩ := gdn h83; clear h83
    refine lX_t C X (nb g84) g86 dX0_extremeEnd_137 ?_
    refine b_goto (tgt := 143) C dX0_extremeEnd_138 (by decide) ?_
    obtain ⟨x87, ex87, h88⟩ := lt1_inv h85; clear h85
    refine b_nmJ ex87 ?_
    refine b_lstore (lv' := [(6, .long x87), (12, .int x77), (0, .ref (ad b)), (1, .int x69), (2, .int x70), (4, .int x71), (5, .ref (ad x72)), (8, .int x74), (9, .int x75), (10, .int x76)]) C dX0_extremeEnd_143 (by decide) rfl ?_
    refine b_iconst (v := (1 : Int32)) C dX0_extremeEnd_145 (by decide) ?_
    refine b_istore (lv' := [(8, .int (1 : Int32)), (6, .long x87), (12, .int x77), (0, .ref (ad b)), (1, .int x69), (2, .int x70), (4, .int x71), (5, .ref (ad x72)), (9, .int x75), (10, .int x76)]) C dX0_extremeEnd_146 (by decide) rfl ?_
    obtain ⟨x89, ex89, h90⟩ := lt1_inv h88; clear h88
    refine b_iinc (v := x89) (lv' := [(9, .int x89), (8, .int (1 : Int32)), (6, .long x87), (12, .int x77), (0, .ref (ad b)), (1, .int x69), (2, .int x70), (4, .int x71), (5, .ref (ad x72)), (10, .int x76)]) C 8 dX0_extremeEnd_148 rfl (by rw [ex89]; rfl) (by decide) rfl ?_
    refine b_goto (tgt := 26) C dX0_extremeEnd_151 (by decide) ?_
    exact b_sub [4, 5, 6, 7, 8, 2, 1, 0] rfl (hq26 _ _ _ _ _ _ _ _ h90)
  have h82 := ineg h79 c80; clear h79
  refine b_iload C 0 dX0_extremeEnd_128 rfl ?_
  refine b_if_eq (tgt := 141) C dX0_extremeEnd_130 (by decide) (fun c91 => ?_) (fun c91 => ?_)
  · have h92 := ipos h82 c91; clear h82
    refine b_lload C 6 dX0_extremeEnd_141 rfl ?_
    refine b_lstore (lv' := [(6, .long x73), (12, .int x77), (0, .ref (ad b)), (1, .int x69), (2, .int x70), (4, .int x71), (5, .ref (ad x72)), (8, .int x74), (9, .int x75), (10, .int x76)]) C dX0_extremeEnd_143 (by decide) rfl ?_
    refine b_iconst (v := (1 : Int32)) C dX0_extremeEnd_145 (by decide) ?_
    refine b_istore (lv' := [(8, .int (1 : Int32)), (6, .long x73), (12, .int x77), (0, .ref (ad b)), (1, .int x69), (2, .int x70), (4, .int x71), (5, .ref (ad x72)), (9, .int x75), (10, .int x76)]) C dX0_extremeEnd_146 (by decide) rfl ?_
    obtain ⟨x94, ex94, h95⟩ := lt1_inv h92; clear h92
    refine b_iinc (v := x94) (lv' := [(9, .int x94), (8, .int (1 : Int32)), (6, .long x73), (12, .int x77), (0, .ref (ad b)), (1, .int x69), (2, .int x70), (4, .int x71), (5, .ref (ad x72)), (10, .int x76)]) C 8 dX0_extremeEnd_148 rfl (by rw [ex94]; rfl) (by decide) rfl ?_
    refine b_goto (tgt := 26) C dX0_extremeEnd_151 (by decide) ?_
    exact b_sub [4, 5, 6, 7, 8, 2, 1, 0] rfl (hq26 _ _ _ _ _ _ _ _ h95)
  have h93 := ineg h82 c91; clear h82
  refine b_aload C 5 dX0_extremeEnd_133 rfl ?_
  refine b_iload C 9 dX0_extremeEnd_135 rfl ?_
  obtain ⟨g97, h96⟩ := gdn h93; clear h93
  obtain ⟨g99, h98⟩ := gdn h96; clear h96
  refine lX_t C X (nb g97) g99 dX0_extremeEnd_137 ?_
  refine b_goto (tgt := 143) C dX0_extremeEnd_138 (by decide) ?_
  obtain ⟨x100, ex100, h101⟩ := lt1_inv h98; clear h98
  refine b_nmJ ex100 ?_
  refine b_lstore (lv' := [(6, .long x100), (12, .int x77), (0, .ref (ad b)), (1, .int x69), (2, .int x70), (4, .int x71), (5, .ref (ad x72)), (8, .int x74), (9, .int x75), (10, .int x76)]) C dX0_extremeEnd_143 (by decide) rfl ?_
  refine b_iconst (v := (1 : Int32)) C dX0_extremeEnd_145 (by decide) ?_
  refine b_istore (lv' := [(8, .int (1 : Int32)), (6, .long x100), (12, .int x77), (0, .ref (ad b)), (1, .int x69), (2, .int x70), (4, .int x71), (5, .ref (ad x72)), (9, .int x75), (10, .int x76)]) C dX0_extremeEnd_146 (by decide) rfl ?_
  obtain ⟨x102, ex102, h103⟩ := lt1_inv h101; clear h101
  refine b_iinc (v := x102) (lv' := [(9, .int x102), (8, .int (1 : Int32)), (6, .long x100), (12, .int x77), (0, .ref (ad b)), (1, .int x69), (2, .int x70), (4, .int x71), (5, .ref (ad x72)), (10, .int x76)]) C 8 dX0_extremeEnd_148 rfl (by rw [ex102]; rfl) (by decide) rfl ?_
  refine b_goto (tgt := 26) C dX0_extremeEnd_151 (by decide) ?_
  exact b_sub [4, 5, 6, 7, 8, 2, 1, 0] rfl (hq26 _ _ _ _ _ _ _ _ h103)
theorem wX0_extremeEnd_61 {l : Launch} {p : Program} {e : Env} {s : State} {m : MethodId} {args : Array Value} {below : List Frame} {meth : Method} {c : Code} {D : va_G} {A : Nat → Prop} {ad : Nat → Nat} {ca : Nat → ClassId} {rf : Int64} {σf : St} (C : Cb p s m args meth c RX0 cX0_extremeEnd 13) (X : Cx s D A (wX ad ca) (tyX ca)) (hr : meth.sig.returnType = (some .long)) {b : Nat} (hb : isT b = true) {N : Nat} {q26 : St → Int32 → Int32 → Int32 → Nat → Int64 → Int32 → Int32 → Option (Int64 × St)} (hq26 : ∀ (σ : St) (y0 : Int32) (y1 : Int32) (y2 : Int32) (y3 : Nat) (y4 : Int64) (y5 : Int32) (y6 : Int32), q26 σ y0 y1 y2 y3 y4 y5 y6 = some (rf, σf) → bW p l e rmX0_extremeEnd s m args below meth c 0 0 (MQ below (Qw D (wX ad ca) σf (some (.long rf)) A) args s 0 0 A) 13 (wd D A (wX ad ca) s σ) 26 [(0, .ref (ad b)), (1, .int y0), (2, .int y1), (4, .int y2), (5, .ref (ad y3)), (6, .long y4), (8, .int y5), (9, .int y6)] []) : ∀ (σ : St) (y0 : Int32) (y1 : Int32) (y2 : Int32) (y3 : Nat) (y4 : Int64) (y5 : Int32) (y6 : Int32) (y7 : Int32) (y8 : Int32), fX0_extremeEnd_61 N b q26 σ y0 y1 y2 y3 y4 y5 y6 y7 y8 = some (rf, σf) → bW p l e rmX0_extremeEnd s m args below meth c 0 0 (MQ below (Qw D (wX ad ca) σf (some (.long rf)) A) args s 0 0 A) 13 (wd D A (wX ad ca) s σ) 61 [(0, .ref (ad b)), (1, .int y0), (2, .int y1), (4, .int y2), (5, .ref (ad y3)), (6, .long y4), (8, .int y5), (9, .int y6), (10, .int y7)] [.int y8] := by
  intro σ42 x33 x34 x35 x36 x37 x38 x39 x40 x41 h43
  refine b_istore (lv' := [(11, .int x41), (0, .ref (ad b)), (1, .int x33), (2, .int x34), (4, .int x35), (5, .ref (ad x36)), (6, .long x37), (8, .int x38), (9, .int x39), (10, .int x40)]) C dX0_extremeEnd_61 (by decide) rfl ?_
  refine b_iload C 0 dX0_extremeEnd_63 rfl ?_
  refine b_if_eq (tgt := 148) C dX0_extremeEnd_65 (by decide) (fun c44 => ?_) (fun c44 => ?_)
  · have h45 := ipos h43 c44; clear h43
    obtain ⟨x47, ex47, h48⟩ := lt1_inv h45; clear h45
    refine b_iinc (v := x47) (lv' := [(9, .int x47), (11, .int x41), (0, .ref (ad b)), (1, .int x33), (2, .int x34), (4, .int x35), (5, .ref (ad x36)), (6, .long x37), (8, .int x38), (10, .int x40)]) C 8 dX0_extremeEnd_148 rfl (by rw [ex47]; rfl) (by decide) rfl ?_
    refine b_goto (tgt := 26) C dX0_extremeEnd_151 (by decide) ?_
    exact b_sub [2, 3, 4, 5, 6, 7, 8, 0] rfl (hq26 _ _ _ _ _ _ _ _ h48)
  have h46 := ineg h43 c44; clear h43
  refine b_iload C 9 dX0_extremeEnd_68 rfl ?_
  refine b_if_lt (tgt := 148) C dX0_extremeEnd_70 (by decide) (fun c49 => ?_) (fun c49 => ?_)
  · have h50 := ipos h46 c49; clear h46
    obtain ⟨x52, ex52, h53⟩ := lt1_inv h50; clear h50
    refine b_iinc (v := x52) (lv' := [(9, .int x52), (11, .int x41), (0, .ref (ad b)), (1, .int x33), (2, .int x34), (4, .int x35), (5, .ref (ad x36)), (6, .long x37), (8, .int x38), (10, .int x40)]) C 8 dX0_extremeEnd_148 rfl (by rw [ex52]; rfl) (by decide) rfl ?_
    refine b_goto (tgt := 26) C dX0_extremeEnd_151 (by decide) ?_
    exact b_sub [2, 3, 4, 5, 6, 7, 8, 0] rfl (hq26 _ _ _ _ _ _ _ _ h53)
  have h51 := ineg h46 c49; clear h46
  refine b_iload C 9 dX0_extremeEnd_73 rfl ?_
  refine b_aload C 5 dX0_extremeEnd_75 rfl ?_
  obtain ⟨g55, h54⟩ := gdn h51; clear h51
  refine nX_t C X (nb g55) dX0_extremeEnd_77 ?_
  refine b_icmp_ge (tgt := 148) C dX0_extremeEnd_78 (by decide) (fun c56 => ?_) (fun c56 => ?_)
  · have h57 := ipos h54 c56; clear h54
    obtain ⟨x59, ex59, h60⟩ := lt1_inv h57; clear h57
    refine b_iinc (v := x59) (lv' := [(9, .int x59), (11, .int x41), (0, .ref (ad b)), (1, .int x33), (2, .int x34), (4, .int x35), (5, .ref (ad x36)), (6, .long x37), (8, .int x38), (10, .int x40)]) C 8 dX0_extremeEnd_148 rfl (by rw [ex59]; rfl) (by decide) rfl ?_
    refine b_goto (tgt := 26) C dX0_extremeEnd_151 (by decide) ?_
    exact b_sub [2, 3, 4, 5, 6, 7, 8, 0] rfl (hq26 _ _ _ _ _ _ _ _ h60)
  have h58 := ineg h54 c56; clear h54
  refine b_iload C 4 dX0_extremeEnd_81 rfl ?_
  refine b_if_eq (tgt := 105) C dX0_extremeEnd_83 (by decide) (fun c61 => ?_) (fun c61 => ?_)
  · have h62 := ipos h58 c61; clear h58
    refine b_aload C 5 dX0_extremeEnd_105 rfl ?_
    refine b_iload C 9 dX0_extremeEnd_107 rfl ?_
    obtain ⟨g65, h64⟩ := gdn h62; clear h62
    refine lX_t C X (nb g55) g65 dX0_extremeEnd_109 ?_
    refine b_lload C 6 dX0_extremeEnd_110 rfl ?_
    refine b_lc_ge (tgt := 120) C dX0_extremeEnd_112 dX0_extremeEnd_113 (by decide) (fun c66 => ?_) (fun c66 => ?_)
    · have h67 := ipos h64 c66; clear h64
      refine b_iconst (v := (0 : Int32)) C dX0_extremeEnd_120 (by decide) ?_
      exact b_sub [1, 2, 3, 4, 5, 6, 7, 8, 9] rfl (wX0_extremeEnd_121 C X hr hb hq26 _ _ _ _ _ _ _ _ _ _ h67)
    have h68 := ineg h64 c66; clear h64
    refine b_iconst (v := (1 : Int32)) C dX0_extremeEnd_116 (by decide) ?_
    refine b_goto (tgt := 121) C dX0_extremeEnd_117 (by decide) ?_
    exact b_sub [1, 2, 3, 4, 5, 6, 7, 8, 9] rfl (wX0_extremeEnd_121 C X hr hb hq26 _ _ _ _ _ _ _ _ _ _ h68)
  have h63 := ineg h58 c61; clear h58
  refine b_aload C 5 dX0_extremeEnd_86 rfl ?_
  refine b_iload C 9 dX0_extremeEnd_88 rfl ?_
  obtain ⟨g105, h104⟩ := gdn h63; clear h63
  refine lX_t C X (nb g55) g105 dX0_extremeEnd_90 ?_
  refine b_lload C 6 dX0_extremeEnd_91 rfl ?_
  refine b_lc_le (tgt := 101) C dX0_extremeEnd_93 dX0_extremeEnd_94 (by decide) (fun c106 => ?_) (fun c106 => ?_)
  · have h107 := ipos h104 c106; clear h104
    refine b_iconst (v := (0 : Int32)) C dX0_extremeEnd_101 (by decide) ?_
    refine b_goto (tgt := 121) C dX0_extremeEnd_102 (by decide) ?_
    exact b_sub [1, 2, 3, 4, 5, 6, 7, 8, 9] rfl (wX0_extremeEnd_121 C X hr hb hq26 _ _ _ _ _ _ _ _ _ _ h107)
  have h108 := ineg h104 c106; clear h104
  refine b_iconst (v := (1 : Int32)) C dX0_extremeEnd_97 (by decide) ?_
  refine b_goto (tgt := 121) C dX0_extremeEnd_98 (by decide) ?_
  exact b_sub [1, 2, 3, 4, 5, 6, 7, 8, 9] rfl (wX0_extremeEnd_121 C X hr hb hq26 _ _ _ _ _ _ _ _ _ _ h108)
theorem wX0_extremeEnd_26 {l : Launch} {p : Program} {e : Env} {s : State} {m : MethodId} {args : Array Value} {below : List Frame} {meth : Method} {c : Code} {D : va_G} {A : Nat → Prop} {ad : Nat → Nat} {ca : Nat → ClassId} {rf : Int64} {σf : St} (C : Cb p s m args meth c RX0 cX0_extremeEnd 13) (X : Cx s D A (wX ad ca) (tyX ca)) (hr : meth.sig.returnType = (some .long)) {b : Nat} (hb : isT b = true) {N : Nat} {q154 : St → Int64 → Option (Int64 × St)} (hq154 : ∀ (σ : St) (y0 : Int64), q154 σ y0 = some (rf, σf) → bW p l e rmX0_extremeEnd s m args below meth c 0 0 (MQ below (Qw D (wX ad ca) σf (some (.long rf)) A) args s 0 0 A) 13 (wd D A (wX ad ca) s σ) 154 [(6, .long y0)] []) : ∀ n : Nat, ∀ (σ : St) (y0 : Int32) (y1 : Int32) (y2 : Int32) (y3 : Nat) (y4 : Int64) (y5 : Int32) (y6 : Int32), fX0_extremeEnd_26 N b q154 n σ y0 y1 y2 y3 y4 y5 y6 = some (rf, σf) → bW p l e rmX0_extremeEnd s m args below meth c 0 0 (MQ below (Qw D (wX ad ca) σf (some (.long rf)) A) args s 0 0 A) 13 (wd D A (wX ad ca) s σ) 26 [(0, .ref (ad b)), (1, .int y0), (2, .int y1), (4, .int y2), (5, .ref (ad y3)), (6, .long y4), (8, .int y5), (9, .int y6)] [] := by
  intro n
  induction n with
  | zero => intro σ23 x16 x17 x18 x19 x20 x21 x22 h24; exact nn h24
  | succ n hq26 =>
    intro σ23 x16 x17 x18 x19 x20 x21 x22 h24
    replace h24 : fX0_extremeEnd_26b N b q154 (fX0_extremeEnd_26 N b q154 n) σ23 x16 x17 x18 x19 x20 x21 x22 = some (rf, σf) := h24
    refine b_iload C 7 dX0_extremeEnd_26 rfl ?_
    refine b_aload_n C 0 dX0_extremeEnd_28 rfl rfl ?_
    refine gX0_7 C X hb dX0_extremeEnd_29 ?_
    refine b_icmp_ge (tgt := 154) C dX0_extremeEnd_32 (by decide) (fun c25 => ?_) (fun c25 => ?_)
    · have h26 := ipos h24 c25; clear h24
      exact b_sub [5] rfl (hq154 _ _ h26)
    have h27 := ineg h24 c25; clear h24
    refine b_iload_n C 1 dX0_extremeEnd_35 rfl rfl ?_
    refine b_aload_n C 0 dX0_extremeEnd_36 rfl rfl ?_
    refine gX0_7 C X hb dX0_extremeEnd_37 ?_
    refine b_imul C dX0_extremeEnd_40 ?_
    refine b_iload C 7 dX0_extremeEnd_41 rfl ?_
    refine b_iadd C dX0_extremeEnd_43 ?_
    obtain ⟨x28, ex28, h29⟩ := lt1_inv h27; clear h27
    refine b_nmI ex28 ?_
    refine b_istore (lv' := [(10, .int x28), (0, .ref (ad b)), (1, .int x16), (2, .int x17), (4, .int x18), (5, .ref (ad x19)), (6, .long x20), (8, .int x21), (9, .int x22)]) C dX0_extremeEnd_44 (by decide) rfl ?_
    refine b_iload_n C 3 dX0_extremeEnd_46 rfl rfl ?_
    refine b_iload C 8 dX0_extremeEnd_47 rfl ?_
    refine b_ishr C dX0_extremeEnd_49 ?_
    refine b_iconst (v := (1 : Int32)) C dX0_extremeEnd_50 (by decide) ?_
    refine b_iand C dX0_extremeEnd_51 ?_
    refine b_iconst (v := (1 : Int32)) C dX0_extremeEnd_52 (by decide) ?_
    refine b_icmp_ne (tgt := 60) C dX0_extremeEnd_53 (by decide) (fun c30 => ?_) (fun c30 => ?_)
    · have h31 := ineg h29 c30; clear h29
      refine b_iconst (v := (0 : Int32)) C dX0_extremeEnd_60 (by decide) ?_
      exact b_sub [1, 2, 3, 4, 5, 6, 7, 8, 0] rfl (wX0_extremeEnd_61 C X hr hb hq26 _ _ _ _ _ _ _ _ _ _ h31)
    have h32 := ipos h29 c30; clear h29
    refine b_iconst (v := (1 : Int32)) C dX0_extremeEnd_56 (by decide) ?_
    refine b_goto (tgt := 61) C dX0_extremeEnd_57 (by decide) ?_
    exact b_sub [1, 2, 3, 4, 5, 6, 7, 8, 0] rfl (wX0_extremeEnd_61 C X hr hb hq26 _ _ _ _ _ _ _ _ _ _ h32)
theorem wX0_extremeEnd_15 {l : Launch} {p : Program} {e : Env} {s : State} {m : MethodId} {args : Array Value} {below : List Frame} {meth : Method} {c : Code} {D : va_G} {A : Nat → Prop} {ad : Nat → Nat} {ca : Nat → ClassId} {rf : Int64} {σf : St} (C : Cb p s m args meth c RX0 cX0_extremeEnd 13) (X : Cx s D A (wX ad ca) (tyX ca)) (hr : meth.sig.returnType = (some .long)) {b : Nat} (hb : isT b = true) {N : Nat} : ∀ (σ : St) (y0 : Int32) (y1 : Int32) (y2 : Int32) (y3 : Nat), fX0_extremeEnd_15 N b σ y0 y1 y2 y3 = some (rf, σf) → bW p l e rmX0_extremeEnd s m args below meth c 0 0 (MQ below (Qw D (wX ad ca) σf (some (.long rf)) A) args s 0 0 A) 13 (wd D A (wX ad ca) s σ) 15 [(0, .ref (ad b)), (1, .int y0), (2, .int y1), (4, .int y2)] [.ref (ad y3)] := by
  intro σ14 x10 x11 x12 x13 h15
  refine b_astore (lv' := [(5, .ref (ad x13)), (0, .ref (ad b)), (1, .int x10), (2, .int x11), (4, .int x12)]) C dX0_extremeEnd_15 (by decide) rfl ?_
  refine b_lconst (v := (0 : Int64)) C dX0_extremeEnd_17 (by decide) ?_
  refine b_lstore (lv' := [(6, .long (0 : Int64)), (5, .ref (ad x13)), (0, .ref (ad b)), (1, .int x10), (2, .int x11), (4, .int x12)]) C dX0_extremeEnd_18 (by decide) rfl ?_
  refine b_iconst (v := (0 : Int32)) C dX0_extremeEnd_20 (by decide) ?_
  refine b_istore (lv' := [(8, .int (0 : Int32)), (6, .long (0 : Int64)), (5, .ref (ad x13)), (0, .ref (ad b)), (1, .int x10), (2, .int x11), (4, .int x12)]) C dX0_extremeEnd_21 (by decide) rfl ?_
  refine b_iconst (v := (0 : Int32)) C dX0_extremeEnd_23 (by decide) ?_
  refine b_istore (lv' := [(9, .int (0 : Int32)), (8, .int (0 : Int32)), (6, .long (0 : Int64)), (5, .ref (ad x13)), (0, .ref (ad b)), (1, .int x10), (2, .int x11), (4, .int x12)]) C dX0_extremeEnd_24 (by decide) rfl ?_
  refine b_sub [4, 5, 6, 7, 3, 2, 1, 0] rfl (wX0_extremeEnd_26 C X hr hb (fun σ110 x109 h111 => ?_) _ _ _ _ _ _ _ _ _ h15)
  refine b_lload C 0 dX0_extremeEnd_154 rfl ?_
  obtain ⟨rfl, rfl⟩ := so2 h111
  exact b_lret C dX0_extremeEnd_156 hr
theorem ctX0_extremeEnd {l : Launch} {ad : Nat → Nat} {ca : Nat → ClassId} {N : Nat} {σ : St} {b : Nat} {a1 : Int32} {a2 : Int32} {a3 : Int32} {a4 : Int32} {rf : Int64} {σf : St} (h : fX0_extremeEnd N σ b a1 a2 a3 a4 = some (rf, σf)) : Cw l yX0_extremeEnd cX0_extremeEnd 13 (some .long) rmX0_extremeEnd [.ref (ad b), .int a1, .int a2, .int a3, .int a4] (wX ad ca) (tyX ca) σ (some (.long rf)) σf := by
  obtain ⟨hb0, h6⟩ := gdn h; clear h
  have hb : isT b = true := nb hb0
  refine Cw_of (by decide) (sameX ad ca) (Nat.le_of_ble_eq_true rfl) ?_
  intro p e s m args below meth c D A C X hr
  replace C : Cb p s m args meth c RX0 cX0_extremeEnd 13 := C
  refine b_sub (lv' := [(0, .ref (ad b)), (1, .int a1), (2, .int a2), (3, .int a3), (4, .int a4)]) [0, 1, 2, 3, 4] rfl ?_
  refine b_iload_n C 3 dX0_extremeEnd_0 rfl rfl ?_
  refine b_if_eq (tgt := 11) C dX0_extremeEnd_1 (by decide) (fun c7 => ?_) (fun c7 => ?_)
  · have h8 := ipos h6 c7; clear h6
    refine b_aload_n C 0 dX0_extremeEnd_11 rfl rfl ?_
    refine gX0_13 C X hb dX0_extremeEnd_12 ?_
    exact b_sub [0, 1, 2, 4] rfl (wX0_extremeEnd_15 C X hr hb _ _ _ _ _ h8)
  have h9 := ineg h6 c7; clear h6
  refine b_aload_n C 0 dX0_extremeEnd_4 rfl rfl ?_
  refine gX0_17 C X hb dX0_extremeEnd_5 ?_
  refine b_goto (tgt := 15) C dX0_extremeEnd_8 (by decide) ?_
  exact b_sub [0, 1, 2, 4] rfl (wX0_extremeEnd_15 C X hr hb _ _ _ _ _ h9)
def rmX2_sentEnd : Room := { frames := 1, cells := 0, slots := 0, locals := 32 }
def fX2_sentEnd_124 (N : Nat) (σ40 : St) (x39 : Int64) : Option (Int64 × St) :=
  lt1 ((10000 : Int64) * ((gI σ40 2).toInt64)) fun x42 =>
  bd0 (fJ9_min_f86c9 x42 x39) fun r45 =>
  bd0 (fJ9_max_f86c9 (-x42) r45) fun r47 =>
  some (r47, σ40)
def fX2_sentEnd (N : Nat) (σ : St) (a1 : Int32) (a2 : Int32) (a3 : Int32) : Option (Int64 × St) :=
  bd2 (fX2_isNode σ a1) fun r7 σ6 =>
  if r7 = (0 : Int32) then (
  some ((0 : Int64), σ6))
  else (
  if (a1 < 0 ∨ 10 ≤ (a1).toNatClampNeg) then none else
  if (gF σ6 2 (a1).toNatClampNeg) = (1 : Int32) then (
  bd2 (fX0_end σ6 6 a1 a2 a3) fun r18 σ17 =>
  lt1 ((10000 : Int64) * ((gI σ17 2).toInt64)) fun x19 =>
  bd0 (fJ9_min_f86c9 x19 r18) fun r22 =>
  bd0 (fJ9_max_f86c9 (-x19) r22) fun r24 =>
  some (r24, σ17))
  else if (gF σ6 2 (a1).toNatClampNeg) = (2 : Int32) then (
  if (a2 - a2 / (2 : Int32) * (2 : Int32)) = (0 : Int32) then (
  bd2 (fX2_correctSet N σ6) fun r50 σ49 =>
  bd2 (fX0_extremeEnd N σ49 3 (gI σ6 3) r50 (0 : Int32) (0 : Int32)) fun r53 σ52 =>
  if (a1 < 0 ∨ 10 ≤ (a1).toNatClampNeg) then none else
  fX2_sentEnd_124 N σ52 (r53 - (gG σ52 4 (a1).toNatClampNeg)))
  else (
  bd2 (fX2_correctSet N σ6) fun r33 σ32 =>
  bd2 (fX0_extremeEnd N σ32 3 (gI σ6 3) r33 (1 : Int32) (1 : Int32)) fun r36 σ35 =>
  if (a1 < 0 ∨ 10 ≤ (a1).toNatClampNeg) then none else
  fX2_sentEnd_124 N σ35 (r36 + (gG σ35 4 (a1).toNatClampNeg))))
  else if (gF σ6 2 (a1).toNatClampNeg) = (3 : Int32) then (
  bd2 (fX0_end σ6 3 (gI σ6 3) a2 a3) fun r61 σ60 =>
  if (a1 < 0 ∨ 10 ≤ (a1).toNatClampNeg) then none else
  lt1 (r61 + (gG σ60 4 (a1).toNatClampNeg)) fun x64 =>
  lt1 ((10000 : Int64) * ((gI σ60 2).toInt64)) fun x66 =>
  bd0 (fJ9_min_f86c9 x66 x64) fun r69 =>
  bd0 (fJ9_max_f86c9 (-x66) r69) fun r71 =>
  some (r71, σ60))
  else if (gF σ6 2 (a1).toNatClampNeg) = (4 : Int32) then (
  bd2 (fX0_end σ6 3 (gI σ6 3) a2 a3) fun r77 σ76 =>
  lt1 ((10000 : Int64) * ((gI σ76 2).toInt64)) fun x78 =>
  bd0 (fJ9_min_f86c9 x78 r77) fun r81 =>
  bd0 (fJ9_max_f86c9 (-x78) r81) fun r83 =>
  some (r83, σ76))
  else if (gF σ6 2 (a1).toNatClampNeg) = (5 : Int32) then (
  bd2 (fX0_end σ6 3 (0 : Int32) a1 a3) fun r89 σ88 =>
  if (a1 < 0 ∨ 10 ≤ (a1).toNatClampNeg) then none else
  lt1 (r89 + (((gI σ88 3).toInt64) * (gG σ88 4 (a1).toNatClampNeg))) fun x92 =>
  lt1 ((10000 : Int64) * ((gI σ88 2).toInt64)) fun x94 =>
  bd0 (fJ9_min_f86c9 x94 x92) fun r97 =>
  bd0 (fJ9_max_f86c9 (-x94) r97) fun r99 =>
  some (r99, σ88))
  else (
  bd2 (fX2_delayOf σ6 a1 a2) fun r102 σ101 =>
  bd0 (fJ9_max_7cf53 (0 : Int32) ((gI σ6 3) - r102)) fun r104 =>
  bd2 (fX0_end σ101 3 r104 a1 a3) fun r107 σ106 =>
  some (r107, σ106)))
theorem wX2_sentEnd_124 {l : Launch} {p : Program} {e : Env} {s : State} {m : MethodId} {args : Array Value} {below : List Frame} {meth : Method} {c : Code} {D : va_G} {A : Nat → Prop} {ad : Nat → Nat} {ca : Nat → ClassId} {rf : Int64} {σf : St} (C : Cb p s m args meth c RX2 cX2_sentEnd 8) (X : Cx s D A (wX ad ca) (tyX ca)) (hr : meth.sig.returnType = (some .long)) {N : Nat} : ∀ (σ : St) (y0 : Int64), fX2_sentEnd_124 N σ y0 = some (rf, σf) → bW p l e rmX2_sentEnd s m args below meth c 0 0 (MQ below (Qw D (wX ad ca) σf (some (.long rf)) A) args s 0 0 A) 8 (wd D A (wX ad ca) s σ) 124 [(0, .ref (ad 0))] [.long y0] := by
  intro σ40 x39 h41
  refine b_lstore (lv' := [(4, .long x39), (0, .ref (ad 0))]) C dX2_sentEnd_124 (by decide) rfl ?_
  refine b_goto (tgt := 225) C dX2_sentEnd_126 (by decide) ?_
  refine b_ldc2 (v := (10000 : Int64)) C dX2_sentEnd_225 kc_X2_220 ?_
  refine b_aload_n C 1 dX2_sentEnd_228 rfl rfl ?_
  refine gX2_83 C X dX2_sentEnd_229 ?_
  refine b_i2l C dX2_sentEnd_232 ?_
  refine b_lmul C dX2_sentEnd_233 ?_
  obtain ⟨x42, ex42, h43⟩ := lt1_inv h41; clear h41
  refine b_nmJ ex42 ?_
  refine b_lstore (lv' := [(6, .long x42), (4, .long x39), (0, .ref (ad 0))]) C dX2_sentEnd_234 (by decide) rfl ?_
  refine b_lload C 0 dX2_sentEnd_236 rfl ?_
  refine b_lneg C dX2_sentEnd_238 ?_
  refine b_lload C 0 dX2_sentEnd_239 rfl ?_
  refine b_lload C 1 dX2_sentEnd_241 rfl ?_
  obtain ⟨r45, ec44, h44⟩ := bd0_inv h43; clear h43
  refine b_callSl (rest := [.long (-x42)]) C dX2_sentEnd_243 (ctJ9_min_f86c9 ec44) mf_J9_min_f86c9 ms_J9_min_f86c9 kl_X2_222 rfl ⟨rfl, rfl⟩ ⟨Nat.le_of_ble_eq_true rfl, Nat.le_of_ble_eq_true rfl⟩ ⟨Nat.zero_le _, Nat.zero_le _⟩ rfl (Nat.le_of_ble_eq_true rfl) ?_
  obtain ⟨r47, ec46, h46⟩ := bd0_inv h44; clear h44
  refine b_callSl (rest := []) C dX2_sentEnd_246 (ctJ9_max_f86c9 ec46) mf_J9_max_f86c9 ms_J9_max_f86c9 kl_X2_215 rfl ⟨rfl, rfl⟩ ⟨Nat.le_of_ble_eq_true rfl, Nat.le_of_ble_eq_true rfl⟩ ⟨Nat.zero_le _, Nat.zero_le _⟩ rfl (Nat.le_of_ble_eq_true rfl) ?_
  obtain ⟨rfl, rfl⟩ := so2 h46
  exact b_lret C dX2_sentEnd_249 hr
theorem ctX2_sentEnd {l : Launch} {ad : Nat → Nat} {ca : Nat → ClassId} {N : Nat} {σ : St} {a1 : Int32} {a2 : Int32} {a3 : Int32} {rf : Int64} {σf : St} (h : fX2_sentEnd N σ a1 a2 a3 = some (rf, σf)) : Cw l yX2_sentEnd cX2_sentEnd 8 (some .long) rmX2_sentEnd [.ref (ad 0), .int a1, .int a2, .int a3] (wX ad ca) (tyX ca) σ (some (.long rf)) σf := by
  refine Cw_of (by decide) (sameX ad ca) (Nat.le_of_ble_eq_true rfl) ?_
  intro p e s m args below meth c D A C X hr
  replace C : Cb p s m args meth c RX2 cX2_sentEnd 8 := C
  have h4 := h; clear h
  refine b_sub (lv' := [(0, .ref (ad 0)), (1, .int a1), (2, .int a2), (3, .int a3)]) [0, 1, 2, 3] rfl ?_
  refine b_aload_n C 0 dX2_sentEnd_0 rfl rfl ?_
  refine b_iload_n C 1 dX2_sentEnd_1 rfl rfl ?_
  obtain ⟨r7, σ6, ec5, h5⟩ := bd2_inv h4; clear h4
  refine b_callWi (rest := []) C (sameX ad ca) X dX2_sentEnd_2 (ctX2_isNode ec5) mf_X2_isNode mi_X2_isNode kl_X2_68 0 rfl rfl rfl rfl ⟨rfl, rfl⟩ ⟨Nat.le_of_ble_eq_true rfl, Nat.le_of_ble_eq_true rfl⟩ ⟨Nat.zero_le _, Nat.zero_le _⟩ rfl (Nat.le_of_ble_eq_true rfl) ?_
  refine b_if_ne (tgt := 10) C dX2_sentEnd_5 (by decide) (fun c8 => ?_) (fun c8 => ?_)
  · have h9 := ineg h5 c8; clear h5
    refine b_aload_n C 0 dX2_sentEnd_10 rfl rfl ?_
    refine gX2_34 C X dX2_sentEnd_11 ?_
    refine b_iload_n C 1 dX2_sentEnd_14 rfl rfl ?_
    obtain ⟨g12, h11⟩ := gdn h9; clear h9
    refine lX_10 C X g12 dX2_sentEnd_15 ?_
    rcases Classical.em ((gF σ6 2 (a1).toNatClampNeg) = (1 : Int32)) with c13 | c13
    · have h14 := ipos h11 c13; clear h11
      refine b_tswIn (off := 36) (tgt := 52) (kx := (1 : Int32)) C dX2_sentEnd_16 c13 (by decide) (by decide) (by decide) (by decide) ?_
      refine b_aload_n C 0 dX2_sentEnd_52 rfl rfl ?_
      refine gX2_27 C X dX2_sentEnd_53 ?_
      refine b_iload_n C 1 dX2_sentEnd_56 rfl rfl ?_
      refine b_iload_n C 2 dX2_sentEnd_57 rfl rfl ?_
      refine b_iload_n C 3 dX2_sentEnd_58 rfl rfl ?_
      obtain ⟨r18, σ17, ec16, h16⟩ := bd2_inv h14; clear h14
      refine b_callWl (rest := []) C (sameX ad ca) X dX2_sentEnd_59 (ctX0_end ec16) mf_X0_end mi_X0_end kl_X2_130 6 rfl rfl rfl rfl ⟨rfl, rfl⟩ ⟨Nat.le_of_ble_eq_true rfl, Nat.le_of_ble_eq_true rfl⟩ ⟨Nat.zero_le _, Nat.zero_le _⟩ rfl (Nat.le_of_ble_eq_true rfl) ?_
      refine b_lstore (lv' := [(4, .long r18), (0, .ref (ad 0)), (1, .int a1), (2, .int a2), (3, .int a3)]) C dX2_sentEnd_62 (by decide) rfl ?_
      refine b_goto (tgt := 225) C dX2_sentEnd_64 (by decide) ?_
      refine b_ldc2 (v := (10000 : Int64)) C dX2_sentEnd_225 kc_X2_220 ?_
      refine b_aload_n C 1 dX2_sentEnd_228 rfl rfl ?_
      refine gX2_83 C X dX2_sentEnd_229 ?_
      refine b_i2l C dX2_sentEnd_232 ?_
      refine b_lmul C dX2_sentEnd_233 ?_
      obtain ⟨x19, ex19, h20⟩ := lt1_inv h16; clear h16
      refine b_nmJ ex19 ?_
      refine b_lstore (lv' := [(6, .long x19), (4, .long r18), (0, .ref (ad 0)), (1, .int a1), (2, .int a2), (3, .int a3)]) C dX2_sentEnd_234 (by decide) rfl ?_
      refine b_lload C 0 dX2_sentEnd_236 rfl ?_
      refine b_lneg C dX2_sentEnd_238 ?_
      refine b_lload C 0 dX2_sentEnd_239 rfl ?_
      refine b_lload C 1 dX2_sentEnd_241 rfl ?_
      obtain ⟨r22, ec21, h21⟩ := bd0_inv h20; clear h20
      refine b_callSl (rest := [.long (-x19)]) C dX2_sentEnd_243 (ctJ9_min_f86c9 ec21) mf_J9_min_f86c9 ms_J9_min_f86c9 kl_X2_222 rfl ⟨rfl, rfl⟩ ⟨Nat.le_of_ble_eq_true rfl, Nat.le_of_ble_eq_true rfl⟩ ⟨Nat.zero_le _, Nat.zero_le _⟩ rfl (Nat.le_of_ble_eq_true rfl) ?_
      obtain ⟨r24, ec23, h23⟩ := bd0_inv h21; clear h21
      refine b_callSl (rest := []) C dX2_sentEnd_246 (ctJ9_max_f86c9 ec23) mf_J9_max_f86c9 ms_J9_max_f86c9 kl_X2_215 rfl ⟨rfl, rfl⟩ ⟨Nat.le_of_ble_eq_true rfl, Nat.le_of_ble_eq_true rfl⟩ ⟨Nat.zero_le _, Nat.zero_le _⟩ rfl (Nat.le_of_ble_eq_true rfl) ?_
      obtain ⟨rfl, rfl⟩ := so2 h23
      exact b_lret C dX2_sentEnd_249 hr
    have h15 := ineg h11 c13; clear h11
    rcases Classical.em ((gF σ6 2 (a1).toNatClampNeg) = (2 : Int32)) with c25 | c25
    · have h26 := ipos h15 c25; clear h15
      refine b_tswIn (off := 51) (tgt := 67) (kx := (2 : Int32)) C dX2_sentEnd_16 c25 (by decide) (by decide) (by decide) (by decide) ?_
      refine b_iload_n C 2 dX2_sentEnd_67 rfl rfl ?_
      refine b_iconst (v := (2 : Int32)) C dX2_sentEnd_68 (by decide) ?_
      refine b_irem C dX2_sentEnd_69 (by decide) ?_
      refine b_if_ne (tgt := 100) C dX2_sentEnd_70 (by decide) (fun c28 => ?_) (fun c28 => ?_)
      · have h29 := ineg h26 c28; clear h26
        refine b_aload_n C 0 dX2_sentEnd_100 rfl rfl ?_
        refine gX2_23 C X dX2_sentEnd_101 ?_
        refine b_aload_n C 0 dX2_sentEnd_104 rfl rfl ?_
        refine gX2_72 C X dX2_sentEnd_105 ?_
        refine b_aload_n C 0 dX2_sentEnd_108 rfl rfl ?_
        obtain ⟨r33, σ32, ec31, h31⟩ := bd2_inv h29; clear h29
        refine b_callWi (rest := [.int (gI σ6 3), .ref (ad 3)]) C (sameX ad ca) X dX2_sentEnd_109 (ctX2_correctSet ec31) mf_X2_correctSet mi_X2_correctSet kl_X2_149 0 rfl rfl rfl rfl ⟨rfl, rfl⟩ ⟨Nat.le_of_ble_eq_true rfl, Nat.le_of_ble_eq_true rfl⟩ ⟨Nat.zero_le _, Nat.zero_le _⟩ rfl (Nat.le_of_ble_eq_true rfl) ?_
        refine b_iconst (v := (1 : Int32)) C dX2_sentEnd_112 (by decide) ?_
        refine b_iconst (v := (1 : Int32)) C dX2_sentEnd_113 (by decide) ?_
        obtain ⟨r36, σ35, ec34, h34⟩ := bd2_inv h31; clear h31
        refine b_callWl (rest := []) C (sameX ad ca) X dX2_sentEnd_114 (ctX0_extremeEnd ec34) mf_X0_extremeEnd mi_X0_extremeEnd kl_X2_168 3 rfl rfl rfl rfl ⟨rfl, rfl⟩ ⟨Nat.le_of_ble_eq_true rfl, Nat.le_of_ble_eq_true rfl⟩ ⟨Nat.zero_le _, Nat.zero_le _⟩ rfl (Nat.le_of_ble_eq_true rfl) ?_
        refine b_aload_n C 0 dX2_sentEnd_117 rfl rfl ?_
        refine gX2_37 C X dX2_sentEnd_118 ?_
        refine b_iload_n C 1 dX2_sentEnd_121 rfl rfl ?_
        obtain ⟨g38, h37⟩ := gdn h34; clear h34
        refine lX_11 C X g38 dX2_sentEnd_122 ?_
        refine b_ladd C dX2_sentEnd_123 ?_
        exact b_sub [0] rfl (wX2_sentEnd_124 C X hr _ _ h37)
      have h30 := ipos h26 c28; clear h26
      refine b_aload_n C 0 dX2_sentEnd_73 rfl rfl ?_
      refine gX2_23 C X dX2_sentEnd_74 ?_
      refine b_aload_n C 0 dX2_sentEnd_77 rfl rfl ?_
      refine gX2_72 C X dX2_sentEnd_78 ?_
      refine b_aload_n C 0 dX2_sentEnd_81 rfl rfl ?_
      obtain ⟨r50, σ49, ec48, h48⟩ := bd2_inv h30; clear h30
      refine b_callWi (rest := [.int (gI σ6 3), .ref (ad 3)]) C (sameX ad ca) X dX2_sentEnd_82 (ctX2_correctSet ec48) mf_X2_correctSet mi_X2_correctSet kl_X2_149 0 rfl rfl rfl rfl ⟨rfl, rfl⟩ ⟨Nat.le_of_ble_eq_true rfl, Nat.le_of_ble_eq_true rfl⟩ ⟨Nat.zero_le _, Nat.zero_le _⟩ rfl (Nat.le_of_ble_eq_true rfl) ?_
      refine b_iconst (v := (0 : Int32)) C dX2_sentEnd_85 (by decide) ?_
      refine b_iconst (v := (0 : Int32)) C dX2_sentEnd_86 (by decide) ?_
      obtain ⟨r53, σ52, ec51, h51⟩ := bd2_inv h48; clear h48
      refine b_callWl (rest := []) C (sameX ad ca) X dX2_sentEnd_87 (ctX0_extremeEnd ec51) mf_X0_extremeEnd mi_X0_extremeEnd kl_X2_168 3 rfl rfl rfl rfl ⟨rfl, rfl⟩ ⟨Nat.le_of_ble_eq_true rfl, Nat.le_of_ble_eq_true rfl⟩ ⟨Nat.zero_le _, Nat.zero_le _⟩ rfl (Nat.le_of_ble_eq_true rfl) ?_
      refine b_aload_n C 0 dX2_sentEnd_90 rfl rfl ?_
      refine gX2_37 C X dX2_sentEnd_91 ?_
      refine b_iload_n C 1 dX2_sentEnd_94 rfl rfl ?_
      obtain ⟨g55, h54⟩ := gdn h51; clear h51
      refine lX_11 C X g55 dX2_sentEnd_95 ?_
      refine b_lsub C dX2_sentEnd_96 ?_
      refine b_goto (tgt := 124) C dX2_sentEnd_97 (by decide) ?_
      exact b_sub [0] rfl (wX2_sentEnd_124 C X hr _ _ h54)
    have h27 := ineg h15 c25; clear h15
    rcases Classical.em ((gF σ6 2 (a1).toNatClampNeg) = (3 : Int32)) with c56 | c56
    · have h57 := ipos h27 c56; clear h27
      refine b_tswIn (off := 113) (tgt := 129) (kx := (3 : Int32)) C dX2_sentEnd_16 c56 (by decide) (by decide) (by decide) (by decide) ?_
      refine b_aload_n C 0 dX2_sentEnd_129 rfl rfl ?_
      refine gX2_23 C X dX2_sentEnd_130 ?_
      refine b_aload_n C 0 dX2_sentEnd_133 rfl rfl ?_
      refine gX2_72 C X dX2_sentEnd_134 ?_
      refine b_iload_n C 2 dX2_sentEnd_137 rfl rfl ?_
      refine b_iload_n C 3 dX2_sentEnd_138 rfl rfl ?_
      obtain ⟨r61, σ60, ec59, h59⟩ := bd2_inv h57; clear h57
      refine b_callWl (rest := []) C (sameX ad ca) X dX2_sentEnd_139 (ctX0_end ec59) mf_X0_end mi_X0_end kl_X2_130 3 rfl rfl rfl rfl ⟨rfl, rfl⟩ ⟨Nat.le_of_ble_eq_true rfl, Nat.le_of_ble_eq_true rfl⟩ ⟨Nat.zero_le _, Nat.zero_le _⟩ rfl (Nat.le_of_ble_eq_true rfl) ?_
      refine b_aload_n C 0 dX2_sentEnd_142 rfl rfl ?_
      refine gX2_37 C X dX2_sentEnd_143 ?_
      refine b_iload_n C 1 dX2_sentEnd_146 rfl rfl ?_
      obtain ⟨g63, h62⟩ := gdn h59; clear h59
      refine lX_11 C X g63 dX2_sentEnd_147 ?_
      refine b_ladd C dX2_sentEnd_148 ?_
      obtain ⟨x64, ex64, h65⟩ := lt1_inv h62; clear h62
      refine b_nmJ ex64 ?_
      refine b_lstore (lv' := [(4, .long x64), (0, .ref (ad 0)), (1, .int a1), (2, .int a2), (3, .int a3)]) C dX2_sentEnd_149 (by decide) rfl ?_
      refine b_goto (tgt := 225) C dX2_sentEnd_151 (by decide) ?_
      refine b_ldc2 (v := (10000 : Int64)) C dX2_sentEnd_225 kc_X2_220 ?_
      refine b_aload_n C 1 dX2_sentEnd_228 rfl rfl ?_
      refine gX2_83 C X dX2_sentEnd_229 ?_
      refine b_i2l C dX2_sentEnd_232 ?_
      refine b_lmul C dX2_sentEnd_233 ?_
      obtain ⟨x66, ex66, h67⟩ := lt1_inv h65; clear h65
      refine b_nmJ ex66 ?_
      refine b_lstore (lv' := [(6, .long x66), (4, .long x64), (0, .ref (ad 0)), (1, .int a1), (2, .int a2), (3, .int a3)]) C dX2_sentEnd_234 (by decide) rfl ?_
      refine b_lload C 0 dX2_sentEnd_236 rfl ?_
      refine b_lneg C dX2_sentEnd_238 ?_
      refine b_lload C 0 dX2_sentEnd_239 rfl ?_
      refine b_lload C 1 dX2_sentEnd_241 rfl ?_
      obtain ⟨r69, ec68, h68⟩ := bd0_inv h67; clear h67
      refine b_callSl (rest := [.long (-x66)]) C dX2_sentEnd_243 (ctJ9_min_f86c9 ec68) mf_J9_min_f86c9 ms_J9_min_f86c9 kl_X2_222 rfl ⟨rfl, rfl⟩ ⟨Nat.le_of_ble_eq_true rfl, Nat.le_of_ble_eq_true rfl⟩ ⟨Nat.zero_le _, Nat.zero_le _⟩ rfl (Nat.le_of_ble_eq_true rfl) ?_
      obtain ⟨r71, ec70, h70⟩ := bd0_inv h68; clear h68
      refine b_callSl (rest := []) C dX2_sentEnd_246 (ctJ9_max_f86c9 ec70) mf_J9_max_f86c9 ms_J9_max_f86c9 kl_X2_215 rfl ⟨rfl, rfl⟩ ⟨Nat.le_of_ble_eq_true rfl, Nat.le_of_ble_eq_true rfl⟩ ⟨Nat.zero_le _, Nat.zero_le _⟩ rfl (Nat.le_of_ble_eq_true rfl) ?_
      obtain ⟨rfl, rfl⟩ := so2 h70
      exact b_lret C dX2_sentEnd_249 hr
    have h58 := ineg h27 c56; clear h27
    rcases Classical.em ((gF σ6 2 (a1).toNatClampNeg) = (4 : Int32)) with c72 | c72
    · have h73 := ipos h58 c72; clear h58
      refine b_tswIn (off := 138) (tgt := 154) (kx := (4 : Int32)) C dX2_sentEnd_16 c72 (by decide) (by decide) (by decide) (by decide) ?_
      refine b_aload_n C 0 dX2_sentEnd_154 rfl rfl ?_
      refine gX2_23 C X dX2_sentEnd_155 ?_
      refine b_aload_n C 0 dX2_sentEnd_158 rfl rfl ?_
      refine gX2_72 C X dX2_sentEnd_159 ?_
      refine b_iload_n C 2 dX2_sentEnd_162 rfl rfl ?_
      refine b_iload_n C 3 dX2_sentEnd_163 rfl rfl ?_
      obtain ⟨r77, σ76, ec75, h75⟩ := bd2_inv h73; clear h73
      refine b_callWl (rest := []) C (sameX ad ca) X dX2_sentEnd_164 (ctX0_end ec75) mf_X0_end mi_X0_end kl_X2_130 3 rfl rfl rfl rfl ⟨rfl, rfl⟩ ⟨Nat.le_of_ble_eq_true rfl, Nat.le_of_ble_eq_true rfl⟩ ⟨Nat.zero_le _, Nat.zero_le _⟩ rfl (Nat.le_of_ble_eq_true rfl) ?_
      refine b_lstore (lv' := [(4, .long r77), (0, .ref (ad 0)), (1, .int a1), (2, .int a2), (3, .int a3)]) C dX2_sentEnd_167 (by decide) rfl ?_
      refine b_goto (tgt := 225) C dX2_sentEnd_169 (by decide) ?_
      refine b_ldc2 (v := (10000 : Int64)) C dX2_sentEnd_225 kc_X2_220 ?_
      refine b_aload_n C 1 dX2_sentEnd_228 rfl rfl ?_
      refine gX2_83 C X dX2_sentEnd_229 ?_
      refine b_i2l C dX2_sentEnd_232 ?_
      refine b_lmul C dX2_sentEnd_233 ?_
      obtain ⟨x78, ex78, h79⟩ := lt1_inv h75; clear h75
      refine b_nmJ ex78 ?_
      refine b_lstore (lv' := [(6, .long x78), (4, .long r77), (0, .ref (ad 0)), (1, .int a1), (2, .int a2), (3, .int a3)]) C dX2_sentEnd_234 (by decide) rfl ?_
      refine b_lload C 0 dX2_sentEnd_236 rfl ?_
      refine b_lneg C dX2_sentEnd_238 ?_
      refine b_lload C 0 dX2_sentEnd_239 rfl ?_
      refine b_lload C 1 dX2_sentEnd_241 rfl ?_
      obtain ⟨r81, ec80, h80⟩ := bd0_inv h79; clear h79
      refine b_callSl (rest := [.long (-x78)]) C dX2_sentEnd_243 (ctJ9_min_f86c9 ec80) mf_J9_min_f86c9 ms_J9_min_f86c9 kl_X2_222 rfl ⟨rfl, rfl⟩ ⟨Nat.le_of_ble_eq_true rfl, Nat.le_of_ble_eq_true rfl⟩ ⟨Nat.zero_le _, Nat.zero_le _⟩ rfl (Nat.le_of_ble_eq_true rfl) ?_
      obtain ⟨r83, ec82, h82⟩ := bd0_inv h80; clear h80
      refine b_callSl (rest := []) C dX2_sentEnd_246 (ctJ9_max_f86c9 ec82) mf_J9_max_f86c9 ms_J9_max_f86c9 kl_X2_215 rfl ⟨rfl, rfl⟩ ⟨Nat.le_of_ble_eq_true rfl, Nat.le_of_ble_eq_true rfl⟩ ⟨Nat.zero_le _, Nat.zero_le _⟩ rfl (Nat.le_of_ble_eq_true rfl) ?_
      obtain ⟨rfl, rfl⟩ := so2 h82
      exact b_lret C dX2_sentEnd_249 hr
    have h74 := ineg h58 c72; clear h58
    rcases Classical.em ((gF σ6 2 (a1).toNatClampNeg) = (5 : Int32)) with c84 | c84
    · have h85 := ipos h74 c84; clear h74
      refine b_tswIn (off := 156) (tgt := 172) (kx := (5 : Int32)) C dX2_sentEnd_16 c84 (by decide) (by decide) (by decide) (by decide) ?_
      refine b_aload_n C 0 dX2_sentEnd_172 rfl rfl ?_
      refine gX2_23 C X dX2_sentEnd_173 ?_
      refine b_iconst (v := (0 : Int32)) C dX2_sentEnd_176 (by decide) ?_
      refine b_iload_n C 1 dX2_sentEnd_177 rfl rfl ?_
      refine b_iload_n C 3 dX2_sentEnd_178 rfl rfl ?_
      obtain ⟨r89, σ88, ec87, h87⟩ := bd2_inv h85; clear h85
      refine b_callWl (rest := []) C (sameX ad ca) X dX2_sentEnd_179 (ctX0_end ec87) mf_X0_end mi_X0_end kl_X2_130 3 rfl rfl rfl rfl ⟨rfl, rfl⟩ ⟨Nat.le_of_ble_eq_true rfl, Nat.le_of_ble_eq_true rfl⟩ ⟨Nat.zero_le _, Nat.zero_le _⟩ rfl (Nat.le_of_ble_eq_true rfl) ?_
      refine b_aload_n C 0 dX2_sentEnd_182 rfl rfl ?_
      refine gX2_72 C X dX2_sentEnd_183 ?_
      refine b_i2l C dX2_sentEnd_186 ?_
      refine b_aload_n C 0 dX2_sentEnd_187 rfl rfl ?_
      refine gX2_37 C X dX2_sentEnd_188 ?_
      refine b_iload_n C 1 dX2_sentEnd_191 rfl rfl ?_
      obtain ⟨g91, h90⟩ := gdn h87; clear h87
      refine lX_11 C X g91 dX2_sentEnd_192 ?_
      refine b_lmul C dX2_sentEnd_193 ?_
      refine b_ladd C dX2_sentEnd_194 ?_
      obtain ⟨x92, ex92, h93⟩ := lt1_inv h90; clear h90
      refine b_nmJ ex92 ?_
      refine b_lstore (lv' := [(4, .long x92), (0, .ref (ad 0)), (1, .int a1), (2, .int a2), (3, .int a3)]) C dX2_sentEnd_195 (by decide) rfl ?_
      refine b_goto (tgt := 225) C dX2_sentEnd_197 (by decide) ?_
      refine b_ldc2 (v := (10000 : Int64)) C dX2_sentEnd_225 kc_X2_220 ?_
      refine b_aload_n C 1 dX2_sentEnd_228 rfl rfl ?_
      refine gX2_83 C X dX2_sentEnd_229 ?_
      refine b_i2l C dX2_sentEnd_232 ?_
      refine b_lmul C dX2_sentEnd_233 ?_
      obtain ⟨x94, ex94, h95⟩ := lt1_inv h93; clear h93
      refine b_nmJ ex94 ?_
      refine b_lstore (lv' := [(6, .long x94), (4, .long x92), (0, .ref (ad 0)), (1, .int a1), (2, .int a2), (3, .int a3)]) C dX2_sentEnd_234 (by decide) rfl ?_
      refine b_lload C 0 dX2_sentEnd_236 rfl ?_
      refine b_lneg C dX2_sentEnd_238 ?_
      refine b_lload C 0 dX2_sentEnd_239 rfl ?_
      refine b_lload C 1 dX2_sentEnd_241 rfl ?_
      obtain ⟨r97, ec96, h96⟩ := bd0_inv h95; clear h95
      refine b_callSl (rest := [.long (-x94)]) C dX2_sentEnd_243 (ctJ9_min_f86c9 ec96) mf_J9_min_f86c9 ms_J9_min_f86c9 kl_X2_222 rfl ⟨rfl, rfl⟩ ⟨Nat.le_of_ble_eq_true rfl, Nat.le_of_ble_eq_true rfl⟩ ⟨Nat.zero_le _, Nat.zero_le _⟩ rfl (Nat.le_of_ble_eq_true rfl) ?_
      obtain ⟨r99, ec98, h98⟩ := bd0_inv h96; clear h96
      refine b_callSl (rest := []) C dX2_sentEnd_246 (ctJ9_max_f86c9 ec98) mf_J9_max_f86c9 ms_J9_max_f86c9 kl_X2_215 rfl ⟨rfl, rfl⟩ ⟨Nat.le_of_ble_eq_true rfl, Nat.le_of_ble_eq_true rfl⟩ ⟨Nat.zero_le _, Nat.zero_le _⟩ rfl (Nat.le_of_ble_eq_true rfl) ?_
      obtain ⟨rfl, rfl⟩ := so2 h98
      exact b_lret C dX2_sentEnd_249 hr
    have h86 := ineg h74 c84; clear h74
    refine b_tswOut (tgt := 200) C dX2_sentEnd_16 (by have q0 := i32_ne c13 (z := 1) (by decide); have q1 := i32_ne c25 (z := 2) (by decide); have q2 := i32_ne c56 (z := 3) (by decide); have q3 := i32_ne c72 (z := 4) (by decide); have q4 := i32_ne c84 (z := 5) (by decide); omega) (by decide) ?_
    refine b_aload_n C 0 dX2_sentEnd_200 rfl rfl ?_
    refine gX2_23 C X dX2_sentEnd_201 ?_
    refine b_iconst (v := (0 : Int32)) C dX2_sentEnd_204 (by decide) ?_
    refine b_aload_n C 0 dX2_sentEnd_205 rfl rfl ?_
    refine gX2_72 C X dX2_sentEnd_206 ?_
    refine b_aload_n C 0 dX2_sentEnd_209 rfl rfl ?_
    refine b_iload_n C 1 dX2_sentEnd_210 rfl rfl ?_
    refine b_iload_n C 2 dX2_sentEnd_211 rfl rfl ?_
    obtain ⟨r102, σ101, ec100, h100⟩ := bd2_inv h86; clear h86
    refine b_callWi (rest := [.int (gI σ6 3), .int (0 : Int32), .ref (ad 3)]) C (sameX ad ca) X dX2_sentEnd_212 (ctX2_delayOf ec100) mf_X2_delayOf mi_X2_delayOf kl_X2_94 0 rfl rfl rfl rfl ⟨rfl, rfl⟩ ⟨Nat.le_of_ble_eq_true rfl, Nat.le_of_ble_eq_true rfl⟩ ⟨Nat.zero_le _, Nat.zero_le _⟩ rfl (Nat.le_of_ble_eq_true rfl) ?_
    refine b_isub C dX2_sentEnd_215 ?_
    obtain ⟨r104, ec103, h103⟩ := bd0_inv h100; clear h100
    refine b_callSi (rest := [.ref (ad 3)]) C dX2_sentEnd_216 (ctJ9_max_7cf53 ec103) mf_J9_max_7cf53 ms_J9_max_7cf53 kl_X2_218 rfl ⟨rfl, rfl⟩ ⟨Nat.le_of_ble_eq_true rfl, Nat.le_of_ble_eq_true rfl⟩ ⟨Nat.zero_le _, Nat.zero_le _⟩ rfl (Nat.le_of_ble_eq_true rfl) ?_
    refine b_iload_n C 1 dX2_sentEnd_219 rfl rfl ?_
    refine b_iload_n C 3 dX2_sentEnd_220 rfl rfl ?_
    obtain ⟨r107, σ106, ec105, h105⟩ := bd2_inv h103; clear h103
    refine b_callWl (rest := []) C (sameX ad ca) X dX2_sentEnd_221 (ctX0_end ec105) mf_X0_end mi_X0_end kl_X2_130 3 rfl rfl rfl rfl ⟨rfl, rfl⟩ ⟨Nat.le_of_ble_eq_true rfl, Nat.le_of_ble_eq_true rfl⟩ ⟨Nat.zero_le _, Nat.zero_le _⟩ rfl (Nat.le_of_ble_eq_true rfl) ?_
    obtain ⟨rfl, rfl⟩ := so2 h105
    exact b_lret C dX2_sentEnd_224 hr
  have h10 := ipos h5 c8; clear h5
  refine b_lconst (v := (0 : Int64)) C dX2_sentEnd_8 (by decide) ?_
  obtain ⟨rfl, rfl⟩ := so2 h10
  exact b_lret C dX2_sentEnd_9 hr
def rmX2_received : Room := { frames := 3, cells := 0, slots := 0, locals := 79 }
def fX2_received (N : Nat) (σ : St) (a1 : Int32) (a2 : Int32) (a3 : Int32) (a4 : Int32) : Option (Int64 × St) :=
  bd2 (fX2_isCorrect σ a1) fun r8 σ7 =>
  if r8 = (0 : Int32) then (
  some ((-9223372036854775808 : Int64), σ7))
  else (
  bd2 (fX2_isNode σ7 a2) fun r14 σ13 =>
  if r14 = (0 : Int32) then (
  some ((-9223372036854775808 : Int64), σ13))
  else (
  bd2 (fX2_delayOf σ13 a2 a1) fun r20 σ19 =>
  if r20 = (-1 : Int32) then (
  some ((-9223372036854775808 : Int64), σ19))
  else (
  bd2 (fX2_sentEnd N σ19 a2 a1 a3) fun r26 σ25 =>
  bd2 (fX2_asFraction N σ25 r26 a4) fun r29 σ28 =>
  some (r29, σ28))))
theorem ctX2_received {l : Launch} {ad : Nat → Nat} {ca : Nat → ClassId} {N : Nat} {σ : St} {a1 : Int32} {a2 : Int32} {a3 : Int32} {a4 : Int32} {rf : Int64} {σf : St} (h : fX2_received N σ a1 a2 a3 a4 = some (rf, σf)) : Cw l yX2_received cX2_received 5 (some .long) rmX2_received [.ref (ad 0), .int a1, .int a2, .int a3, .int a4] (wX ad ca) (tyX ca) σ (some (.long rf)) σf := by
  refine Cw_of (by decide) (sameX ad ca) (Nat.le_of_ble_eq_true rfl) ?_
  intro p e s m args below meth c D A C X hr
  replace C : Cb p s m args meth c RX2 cX2_received 5 := C
  have h5 := h; clear h
  refine b_sub (lv' := [(0, .ref (ad 0)), (1, .int a1), (2, .int a2), (3, .int a3), (4, .int a4)]) [0, 1, 2, 3, 4] rfl ?_
  refine b_aload_n C 0 dX2_received_0 rfl rfl ?_
  refine b_iload_n C 1 dX2_received_1 rfl rfl ?_
  obtain ⟨r8, σ7, ec6, h6⟩ := bd2_inv h5; clear h5
  refine b_callWi (rest := []) C (sameX ad ca) X dX2_received_2 (ctX2_isCorrect ec6) mf_X2_isCorrect mi_X2_isCorrect kl_X2_125 0 rfl rfl rfl rfl ⟨rfl, rfl⟩ ⟨Nat.le_of_ble_eq_true rfl, Nat.le_of_ble_eq_true rfl⟩ ⟨Nat.zero_le _, Nat.zero_le _⟩ rfl (Nat.le_of_ble_eq_true rfl) ?_
  refine b_if_eq (tgt := 26) C dX2_received_5 (by decide) (fun c9 => ?_) (fun c9 => ?_)
  · have h10 := ipos h6 c9; clear h6
    refine b_ldc2 (v := (-9223372036854775808 : Int64)) C dX2_received_26 kc_X2_128 ?_
    obtain ⟨rfl, rfl⟩ := so2 h10
    exact b_lret C dX2_received_29 hr
  have h11 := ineg h6 c9; clear h6
  refine b_aload_n C 0 dX2_received_8 rfl rfl ?_
  refine b_iload_n C 2 dX2_received_9 rfl rfl ?_
  obtain ⟨r14, σ13, ec12, h12⟩ := bd2_inv h11; clear h11
  refine b_callWi (rest := []) C (sameX ad ca) X dX2_received_10 (ctX2_isNode ec12) mf_X2_isNode mi_X2_isNode kl_X2_68 0 rfl rfl rfl rfl ⟨rfl, rfl⟩ ⟨Nat.le_of_ble_eq_true rfl, Nat.le_of_ble_eq_true rfl⟩ ⟨Nat.zero_le _, Nat.zero_le _⟩ rfl (Nat.le_of_ble_eq_true rfl) ?_
  refine b_if_eq (tgt := 26) C dX2_received_13 (by decide) (fun c15 => ?_) (fun c15 => ?_)
  · have h16 := ipos h12 c15; clear h12
    refine b_ldc2 (v := (-9223372036854775808 : Int64)) C dX2_received_26 kc_X2_128 ?_
    obtain ⟨rfl, rfl⟩ := so2 h16
    exact b_lret C dX2_received_29 hr
  have h17 := ineg h12 c15; clear h12
  refine b_aload_n C 0 dX2_received_16 rfl rfl ?_
  refine b_iload_n C 2 dX2_received_17 rfl rfl ?_
  refine b_iload_n C 1 dX2_received_18 rfl rfl ?_
  obtain ⟨r20, σ19, ec18, h18⟩ := bd2_inv h17; clear h17
  refine b_callWi (rest := []) C (sameX ad ca) X dX2_received_19 (ctX2_delayOf ec18) mf_X2_delayOf mi_X2_delayOf kl_X2_94 0 rfl rfl rfl rfl ⟨rfl, rfl⟩ ⟨Nat.le_of_ble_eq_true rfl, Nat.le_of_ble_eq_true rfl⟩ ⟨Nat.zero_le _, Nat.zero_le _⟩ rfl (Nat.le_of_ble_eq_true rfl) ?_
  refine b_iconst (v := (-1 : Int32)) C dX2_received_22 (by decide) ?_
  refine b_icmp_ne (tgt := 30) C dX2_received_23 (by decide) (fun c21 => ?_) (fun c21 => ?_)
  · have h22 := ineg h18 c21; clear h18
    refine b_aload_n C 0 dX2_received_30 rfl rfl ?_
    refine b_aload_n C 0 dX2_received_31 rfl rfl ?_
    refine b_iload_n C 2 dX2_received_32 rfl rfl ?_
    refine b_iload_n C 1 dX2_received_33 rfl rfl ?_
    refine b_iload_n C 3 dX2_received_34 rfl rfl ?_
    obtain ⟨r26, σ25, ec24, h24⟩ := bd2_inv h22; clear h22
    refine b_callWl (rest := [.ref (ad 0)]) C (sameX ad ca) X dX2_received_35 (ctX2_sentEnd ec24) mf_X2_sentEnd mi_X2_sentEnd kl_X2_138 0 rfl rfl rfl rfl ⟨rfl, rfl⟩ ⟨Nat.le_of_ble_eq_true rfl, Nat.le_of_ble_eq_true rfl⟩ ⟨Nat.zero_le _, Nat.zero_le _⟩ rfl (Nat.le_of_ble_eq_true rfl) ?_
    refine b_iload C 4 dX2_received_38 rfl ?_
    obtain ⟨r29, σ28, ec27, h27⟩ := bd2_inv h24; clear h24
    refine b_callWl (rest := []) C (sameX ad ca) X dX2_received_40 (ctX2_asFraction ec27) mf_X2_asFraction mi_X2_asFraction kl_X2_134 0 rfl rfl rfl rfl ⟨rfl, rfl⟩ ⟨Nat.le_of_ble_eq_true rfl, Nat.le_of_ble_eq_true rfl⟩ ⟨Nat.zero_le _, Nat.zero_le _⟩ rfl (Nat.le_of_ble_eq_true rfl) ?_
    obtain ⟨rfl, rfl⟩ := so2 h27
    exact b_lret C dX2_received_43 hr
  have h23 := ipos h18 c21; clear h18
  refine b_ldc2 (v := (-9223372036854775808 : Int64)) C dX2_received_26 kc_X2_128 ?_
  obtain ⟨rfl, rfl⟩ := so2 h23
  exact b_lret C dX2_received_29 hr
def rmX2_insertAscending : Room := { frames := 0, cells := 0, slots := 0, locals := 0 }
def fX2_insertAscending_19b (N : Nat) (q60 : St → Int64 → Int32 → Option St) (q19 : St → Int64 → Int32 → Option St) (σ12 : St) (x10 : Int64) (x11 : Int32) : Option St :=
  if x11 ≤ (0 : Int32) then (
  q60 σ12 x10 x11)
  else (
  if ((x11 - (1 : Int32)) < 0 ∨ 10 ≤ ((x11 - (1 : Int32))).toNatClampNeg) then none else
  if (gG σ12 5 ((x11 - (1 : Int32))).toNatClampNeg) ≤ x10 then (
  q60 σ12 x10 x11)
  else (
  if ((x11 - (1 : Int32)) < 0 ∨ 10 ≤ ((x11 - (1 : Int32))).toNatClampNeg) then none else
  if (x11 < 0 ∨ 10 ≤ (x11).toNatClampNeg) then none else
  lt1 (sG σ12 5 (vp_updL (gG σ12 5) (x11).toNatClampNeg (gG σ12 5 ((x11 - (1 : Int32))).toNatClampNeg))) fun σ26 =>
  lt1 (x11 + (-1 : Int32)) fun x28 =>
  q19 σ26 x10 x28))
def fX2_insertAscending_19 (N : Nat) (q60 : St → Int64 → Int32 → Option St) : Nat → St → Int64 → Int32 → Option St
  | 0, _, _, _ => none
  | n + 1, σ, x10, x11 => fX2_insertAscending_19b N q60 (fX2_insertAscending_19 N q60 n) σ x10 x11
def fX2_insertAscending (N : Nat) (σ : St) (a1 : Int64) (a2 : Int32) : Option St :=
  if a2 < (0 : Int32) then (
  some σ)
  else (
  if a2 < (10 : Int32) then (
  fX2_insertAscending_19 N (fun σ32 x30 x31 =>
 if (x31 < 0 ∨ 10 ≤ (x31).toNatClampNeg) then none else
  lt1 (sG σ32 5 (vp_updL (gG σ32 5) (x31).toNatClampNeg x30)) fun σ36 =>
  some σ36) N σ a1 a2)
  else (
  some σ))
theorem wX2_insertAscending_19 {l : Launch} {p : Program} {e : Env} {s : State} {m : MethodId} {args : Array Value} {below : List Frame} {meth : Method} {c : Code} {D : va_G} {A : Nat → Prop} {ad : Nat → Nat} {ca : Nat → ClassId} {σf : St} (C : Cb p s m args meth c RX2 cX2_insertAscending 5) (X : Cx s D A (wX ad ca) (tyX ca)) (hr : meth.sig.returnType = none) {N : Nat} {q60 : St → Int64 → Int32 → Option St} (hq60 : ∀ (σ : St) (y0 : Int64) (y1 : Int32), q60 σ y0 y1 = some σf → bW p l e rmX2_insertAscending s m args below meth c 0 0 (MQ below (Qw D (wX ad ca) σf none A) args s 0 0 A) 5 (wd D A (wX ad ca) s σ) 60 [(0, .ref (ad 0)), (1, .long y0), (4, .int y1)] []) : ∀ n : Nat, ∀ (σ : St) (y0 : Int64) (y1 : Int32), fX2_insertAscending_19 N q60 n σ y0 y1 = some σf → bW p l e rmX2_insertAscending s m args below meth c 0 0 (MQ below (Qw D (wX ad ca) σf none A) args s 0 0 A) 5 (wd D A (wX ad ca) s σ) 19 [(0, .ref (ad 0)), (1, .long y0), (4, .int y1)] [] := by
  intro n
  induction n with
  | zero => intro σ12 x10 x11 h13; exact nn h13
  | succ n hq19 =>
    intro σ12 x10 x11 h13
    replace h13 : fX2_insertAscending_19b N q60 (fX2_insertAscending_19 N q60 n) σ12 x10 x11 = some σf := h13
    refine b_iload C 2 dX2_insertAscending_19 rfl ?_
    refine b_if_le (tgt := 60) C dX2_insertAscending_21 (by decide) (fun c14 => ?_) (fun c14 => ?_)
    · have h15 := ipos h13 c14; clear h13
      exact b_sub [0, 1, 2] rfl (hq60 _ _ _ h15)
    have h16 := ineg h13 c14; clear h13
    refine b_aload_n C 0 dX2_insertAscending_24 rfl rfl ?_
    refine gX2_41 C X dX2_insertAscending_25 ?_
    refine b_iload C 2 dX2_insertAscending_28 rfl ?_
    refine b_iconst (v := (1 : Int32)) C dX2_insertAscending_30 (by decide) ?_
    refine b_isub C dX2_insertAscending_31 ?_
    obtain ⟨g18, h17⟩ := gdn h16; clear h16
    refine lX_12 C X g18 dX2_insertAscending_32 ?_
    refine b_lload_n C 1 dX2_insertAscending_33 rfl rfl ?_
    refine b_lc_le (tgt := 60) C dX2_insertAscending_34 dX2_insertAscending_35 (by decide) (fun c19 => ?_) (fun c19 => ?_)
    · have h20 := ipos h17 c19; clear h17
      exact b_sub [0, 1, 2] rfl (hq60 _ _ _ h20)
    have h21 := ineg h17 c19; clear h17
    refine b_aload_n C 0 dX2_insertAscending_38 rfl rfl ?_
    refine gX2_41 C X dX2_insertAscending_39 ?_
    refine b_iload C 2 dX2_insertAscending_42 rfl ?_
    refine b_aload_n C 0 dX2_insertAscending_44 rfl rfl ?_
    refine gX2_41 C X dX2_insertAscending_45 ?_
    refine b_iload C 2 dX2_insertAscending_48 rfl ?_
    refine b_iconst (v := (1 : Int32)) C dX2_insertAscending_50 (by decide) ?_
    refine b_isub C dX2_insertAscending_51 ?_
    obtain ⟨g23, h22⟩ := gdn h21; clear h21
    refine lX_12 C X g23 dX2_insertAscending_52 ?_
    obtain ⟨g25, h24⟩ := gdn h22; clear h22
    refine aX_12 C X g25 dX2_insertAscending_53 ?_
    obtain ⟨σ26, eσ26, h27⟩ := lt1_inv h24; clear h24
    refine b_nmS eσ26 ?_
    obtain ⟨x28, ex28, h29⟩ := lt1_inv h27; clear h27
    refine b_iinc (v := x28) (lv' := [(4, .int x28), (0, .ref (ad 0)), (1, .long x10)]) C 2 dX2_insertAscending_54 rfl (by rw [ex28]; rfl) (by decide) rfl ?_
    refine b_goto (tgt := 19) C dX2_insertAscending_57 (by decide) ?_
    exact b_sub [1, 2, 0] rfl (hq19 _ _ _ h29)
theorem ctX2_insertAscending {l : Launch} {ad : Nat → Nat} {ca : Nat → ClassId} {N : Nat} {σ : St} {a1 : Int64} {a2 : Int32} {σf : St} (h : fX2_insertAscending N σ a1 a2 = some σf) : Cw l yX2_insertAscending cX2_insertAscending 5 none rmX2_insertAscending [.ref (ad 0), .long a1, .int a2] (wX ad ca) (tyX ca) σ none σf := by
  refine Cw_of (by decide) (sameX ad ca) (Nat.le_of_ble_eq_true rfl) ?_
  intro p e s m args below meth c D A C X hr
  replace C : Cb p s m args meth c RX2 cX2_insertAscending 5 := C
  have h3 := h; clear h
  refine b_sub (lv' := [(0, .ref (ad 0)), (1, .long a1), (3, .int a2)]) [0, 1, 2] rfl ?_
  refine b_iload_n C 2 dX2_insertAscending_0 rfl rfl ?_
  refine b_istore (lv' := [(4, .int a2), (0, .ref (ad 0)), (1, .long a1), (3, .int a2)]) C dX2_insertAscending_1 (by decide) rfl ?_
  refine b_iload C 0 dX2_insertAscending_3 rfl ?_
  refine b_if_lt (tgt := 18) C dX2_insertAscending_5 (by decide) (fun c4 => ?_) (fun c4 => ?_)
  · have h5 := ipos h3 c4; clear h3
    obtain rfl := so1 h5
    exact b_vret C dX2_insertAscending_18 hr
  have h6 := ineg h3 c4; clear h3
  refine b_iload C 0 dX2_insertAscending_8 rfl ?_
  refine b_aload_n C 1 dX2_insertAscending_10 rfl rfl ?_
  refine gX2_41 C X dX2_insertAscending_11 ?_
  refine nX_12 C X dX2_insertAscending_14 ?_
  refine b_icmp_lt (tgt := 19) C dX2_insertAscending_15 (by decide) (fun c7 => ?_) (fun c7 => ?_)
  · have h8 := ipos h6 c7; clear h6
    refine b_sub [1, 2, 0] rfl (wX2_insertAscending_19 C X hr (fun σ32 x30 x31 h33 => ?_) _ _ _ _ h8)
    refine b_aload_n C 0 dX2_insertAscending_60 rfl rfl ?_
    refine gX2_41 C X dX2_insertAscending_61 ?_
    refine b_iload C 2 dX2_insertAscending_64 rfl ?_
    refine b_lload_n C 1 dX2_insertAscending_66 rfl rfl ?_
    obtain ⟨g35, h34⟩ := gdn h33; clear h33
    refine aX_12 C X g35 dX2_insertAscending_67 ?_
    obtain ⟨σ36, eσ36, h37⟩ := lt1_inv h34; clear h34
    refine b_nmS eσ36 ?_
    obtain rfl := so1 h37
    exact b_vret C dX2_insertAscending_68 hr
  have h9 := ineg h6 c7; clear h6
  obtain rfl := so1 h9
  exact b_vret C dX2_insertAscending_18 hr
def rmX2_collectRest : Room := { frames := 2, cells := 0, slots := 0, locals := 59 }
def fX2_collectRest_5b (N : Nat) (q47 : St → Int32 → Option (Int32 × St)) (q5 : St → Int32 → Int32 → Int32 → Int32 → Option (Int32 × St)) (σ8 : St) (x4 : Int32) (x5 : Int32) (x6 : Int32) (x7 : Int32) : Option (Int32 × St) :=
  if (gI σ8 0) ≤ x7 then (
  q47 σ8 x6)
  else (
  bd2 (fX2_delayOf σ8 x7 x4) fun r15 σ14 =>
  if r15 = (-1 : Int32) then (
  lt1 (x7 + (1 : Int32)) fun x19 =>
  q5 σ14 x4 x5 x6 x19)
  else (
  bd2 (fX2_sentEnd N σ14 x7 x4 x5) fun r23 σ22 =>
  bd0 (fX2_insertAscending N σ22 r23 x6) fun σ25 =>
  lt1 (x6 + (1 : Int32)) fun x26 =>
  lt1 (x7 + (1 : Int32)) fun x28 =>
  q5 σ25 x4 x5 x26 x28))
def fX2_collectRest_5 (N : Nat) (q47 : St → Int32 → Option (Int32 × St)) : Nat → St → Int32 → Int32 → Int32 → Int32 → Option (Int32 × St)
  | 0, _, _, _, _, _ => none
  | n + 1, σ, x4, x5, x6, x7 => fX2_collectRest_5b N q47 (fX2_collectRest_5 N q47 n) σ x4 x5 x6 x7
def fX2_collectRest (N : Nat) (σ : St) (a1 : Int32) (a2 : Int32) : Option (Int32 × St) :=
  fX2_collectRest_5 N (fun σ31 x30 =>
 bd0 (fJ9_max_7cf53 (0 : Int32) (x30 - ((2 : Int32) * (gI σ31 1)))) fun r34 =>
  some (r34, σ31)) N σ a1 a2 (0 : Int32) (0 : Int32)
theorem wX2_collectRest_5 {l : Launch} {p : Program} {e : Env} {s : State} {m : MethodId} {args : Array Value} {below : List Frame} {meth : Method} {c : Code} {D : va_G} {A : Nat → Prop} {ad : Nat → Nat} {ca : Nat → ClassId} {rf : Int32} {σf : St} (C : Cb p s m args meth c RX2 cX2_collectRest 5) (X : Cx s D A (wX ad ca) (tyX ca)) (hr : meth.sig.returnType = (some .int)) {N : Nat} {q47 : St → Int32 → Option (Int32 × St)} (hq47 : ∀ (σ : St) (y0 : Int32), q47 σ y0 = some (rf, σf) → bW p l e rmX2_collectRest s m args below meth c 0 0 (MQ below (Qw D (wX ad ca) σf (some (.int rf)) A) args s 0 0 A) 5 (wd D A (wX ad ca) s σ) 47 [(0, .ref (ad 0)), (3, .int y0)] []) : ∀ n : Nat, ∀ (σ : St) (y0 : Int32) (y1 : Int32) (y2 : Int32) (y3 : Int32), fX2_collectRest_5 N q47 n σ y0 y1 y2 y3 = some (rf, σf) → bW p l e rmX2_collectRest s m args below meth c 0 0 (MQ below (Qw D (wX ad ca) σf (some (.int rf)) A) args s 0 0 A) 5 (wd D A (wX ad ca) s σ) 5 [(0, .ref (ad 0)), (1, .int y0), (2, .int y1), (3, .int y2), (4, .int y3)] [] := by
  intro n
  induction n with
  | zero => intro σ8 x4 x5 x6 x7 h9; exact nn h9
  | succ n hq5 =>
    intro σ8 x4 x5 x6 x7 h9
    replace h9 : fX2_collectRest_5b N q47 (fX2_collectRest_5 N q47 n) σ8 x4 x5 x6 x7 = some (rf, σf) := h9
    refine b_iload C 4 dX2_collectRest_5 rfl ?_
    refine b_aload_n C 0 dX2_collectRest_7 rfl rfl ?_
    refine gX2_53 C X dX2_collectRest_8 ?_
    refine b_icmp_ge (tgt := 47) C dX2_collectRest_11 (by decide) (fun c10 => ?_) (fun c10 => ?_)
    · have h11 := ipos h9 c10; clear h9
      exact b_sub [0, 3] rfl (hq47 _ _ h11)
    have h12 := ineg h9 c10; clear h9
    refine b_aload_n C 0 dX2_collectRest_14 rfl rfl ?_
    refine b_iload C 4 dX2_collectRest_15 rfl ?_
    refine b_iload_n C 1 dX2_collectRest_17 rfl rfl ?_
    obtain ⟨r15, σ14, ec13, h13⟩ := bd2_inv h12; clear h12
    refine b_callWi (rest := []) C (sameX ad ca) X dX2_collectRest_18 (ctX2_delayOf ec13) mf_X2_delayOf mi_X2_delayOf kl_X2_94 0 rfl rfl rfl rfl ⟨rfl, rfl⟩ ⟨Nat.le_of_ble_eq_true rfl, Nat.le_of_ble_eq_true rfl⟩ ⟨Nat.zero_le _, Nat.zero_le _⟩ rfl (Nat.le_of_ble_eq_true rfl) ?_
    refine b_iconst (v := (-1 : Int32)) C dX2_collectRest_21 (by decide) ?_
    refine b_icmp_eq (tgt := 41) C dX2_collectRest_22 (by decide) (fun c16 => ?_) (fun c16 => ?_)
    · have h17 := ipos h13 c16; clear h13
      obtain ⟨x19, ex19, h20⟩ := lt1_inv h17; clear h17
      refine b_iinc (v := x19) (lv' := [(4, .int x19), (0, .ref (ad 0)), (1, .int x4), (2, .int x5), (3, .int x6)]) C 4 dX2_collectRest_41 rfl (by rw [ex19]; rfl) (by decide) rfl ?_
      refine b_goto (tgt := 5) C dX2_collectRest_44 (by decide) ?_
      exact b_sub [1, 2, 3, 4, 0] rfl (hq5 _ _ _ _ _ h20)
    have h18 := ineg h13 c16; clear h13
    refine b_aload_n C 0 dX2_collectRest_25 rfl rfl ?_
    refine b_aload_n C 0 dX2_collectRest_26 rfl rfl ?_
    refine b_iload C 4 dX2_collectRest_27 rfl ?_
    refine b_iload_n C 1 dX2_collectRest_29 rfl rfl ?_
    refine b_iload_n C 2 dX2_collectRest_30 rfl rfl ?_
    obtain ⟨r23, σ22, ec21, h21⟩ := bd2_inv h18; clear h18
    refine b_callWl (rest := [.ref (ad 0)]) C (sameX ad ca) X dX2_collectRest_31 (ctX2_sentEnd ec21) mf_X2_sentEnd mi_X2_sentEnd kl_X2_138 0 rfl rfl rfl rfl ⟨rfl, rfl⟩ ⟨Nat.le_of_ble_eq_true rfl, Nat.le_of_ble_eq_true rfl⟩ ⟨Nat.zero_le _, Nat.zero_le _⟩ rfl (Nat.le_of_ble_eq_true rfl) ?_
    refine b_iload_n C 3 dX2_collectRest_34 rfl rfl ?_
    obtain ⟨σ25, ec24, h24⟩ := bd0_inv h21; clear h21
    refine b_callWv (rest := []) C (sameX ad ca) X dX2_collectRest_35 (ctX2_insertAscending ec24) mf_X2_insertAscending mi_X2_insertAscending kl_X2_225 0 rfl rfl rfl rfl ⟨rfl, rfl⟩ ⟨Nat.le_of_ble_eq_true rfl, Nat.le_of_ble_eq_true rfl⟩ ⟨Nat.zero_le _, Nat.zero_le _⟩ rfl (Nat.le_of_ble_eq_true rfl) ?_
    obtain ⟨x26, ex26, h27⟩ := lt1_inv h24; clear h24
    refine b_iinc (v := x26) (lv' := [(3, .int x26), (0, .ref (ad 0)), (1, .int x4), (2, .int x5), (4, .int x7)]) C 3 dX2_collectRest_38 rfl (by rw [ex26]; rfl) (by decide) rfl ?_
    obtain ⟨x28, ex28, h29⟩ := lt1_inv h27; clear h27
    refine b_iinc (v := x28) (lv' := [(4, .int x28), (3, .int x26), (0, .ref (ad 0)), (1, .int x4), (2, .int x5)]) C 4 dX2_collectRest_41 rfl (by rw [ex28]; rfl) (by decide) rfl ?_
    refine b_goto (tgt := 5) C dX2_collectRest_44 (by decide) ?_
    exact b_sub [2, 3, 4, 1, 0] rfl (hq5 _ _ _ _ _ h29)
theorem ctX2_collectRest {l : Launch} {ad : Nat → Nat} {ca : Nat → ClassId} {N : Nat} {σ : St} {a1 : Int32} {a2 : Int32} {rf : Int32} {σf : St} (h : fX2_collectRest N σ a1 a2 = some (rf, σf)) : Cw l yX2_collectRest cX2_collectRest 5 (some .int) rmX2_collectRest [.ref (ad 0), .int a1, .int a2] (wX ad ca) (tyX ca) σ (some (.int rf)) σf := by
  refine Cw_of (by decide) (sameX ad ca) (Nat.le_of_ble_eq_true rfl) ?_
  intro p e s m args below meth c D A C X hr
  replace C : Cb p s m args meth c RX2 cX2_collectRest 5 := C
  have h3 := h; clear h
  refine b_sub (lv' := [(0, .ref (ad 0)), (1, .int a1), (2, .int a2)]) [0, 1, 2] rfl ?_
  refine b_iconst (v := (0 : Int32)) C dX2_collectRest_0 (by decide) ?_
  refine b_istore_n (lv' := [(3, .int (0 : Int32)), (0, .ref (ad 0)), (1, .int a1), (2, .int a2)]) C dX2_collectRest_1 rfl (by decide) rfl ?_
  refine b_iconst (v := (0 : Int32)) C dX2_collectRest_2 (by decide) ?_
  refine b_istore (lv' := [(4, .int (0 : Int32)), (3, .int (0 : Int32)), (0, .ref (ad 0)), (1, .int a1), (2, .int a2)]) C dX2_collectRest_3 (by decide) rfl ?_
  refine b_sub [2, 3, 4, 1, 0] rfl (wX2_collectRest_5 C X hr (fun σ31 x30 h32 => ?_) _ _ _ _ _ _ h3)
  refine b_iconst (v := (0 : Int32)) C dX2_collectRest_47 (by decide) ?_
  refine b_iload_n C 1 dX2_collectRest_48 rfl rfl ?_
  refine b_iconst (v := (2 : Int32)) C dX2_collectRest_49 (by decide) ?_
  refine b_aload_n C 0 dX2_collectRest_50 rfl rfl ?_
  refine gX2_101 C X dX2_collectRest_51 ?_
  refine b_imul C dX2_collectRest_54 ?_
  refine b_isub C dX2_collectRest_55 ?_
  obtain ⟨r34, ec33, h33⟩ := bd0_inv h32; clear h32
  refine b_callSi (rest := []) C dX2_collectRest_56 (ctJ9_max_7cf53 ec33) mf_J9_max_7cf53 ms_J9_max_7cf53 kl_X2_218 rfl ⟨rfl, rfl⟩ ⟨Nat.le_of_ble_eq_true rfl, Nat.le_of_ble_eq_true rfl⟩ ⟨Nat.zero_le _, Nat.zero_le _⟩ rfl (Nat.le_of_ble_eq_true rfl) ?_
  obtain ⟨rfl, rfl⟩ := so2 h33
  exact b_iret C dX2_collectRest_59 hr
def rmX2_restAt : Room := { frames := 0, cells := 0, slots := 0, locals := 0 }
def fX2_restAt (σ : St) (a1 : Int32) : Option (Int64 × St) :=
  lt1 ((gI σ 1) + a1) fun x3 =>
  if x3 < (0 : Int32) then (
  some ((0 : Int64), σ))
  else (
  if (10 : Int32) ≤ x3 then (
  some ((0 : Int64), σ))
  else (
  if (x3 < 0 ∨ 10 ≤ (x3).toNatClampNeg) then none else
  some ((gG σ 5 (x3).toNatClampNeg), σ)))
theorem ctX2_restAt {l : Launch} {ad : Nat → Nat} {ca : Nat → ClassId} {σ : St} {a1 : Int32} {rf : Int64} {σf : St} (h : fX2_restAt σ a1 = some (rf, σf)) : Cw l yX2_restAt cX2_restAt 3 (some .long) rmX2_restAt [.ref (ad 0), .int a1] (wX ad ca) (tyX ca) σ (some (.long rf)) σf := by
  refine Cw_of (by decide) (sameX ad ca) (Nat.le_of_ble_eq_true rfl) ?_
  intro p e s m args below meth c D A C X hr
  replace C : Cb p s m args meth c RX2 cX2_restAt 3 := C
  have h2 := h; clear h
  refine b_sub (lv' := [(0, .ref (ad 0)), (1, .int a1)]) [0, 1] rfl ?_
  refine b_aload_n C 0 dX2_restAt_0 rfl rfl ?_
  refine gX2_101 C X dX2_restAt_1 ?_
  refine b_iload_n C 1 dX2_restAt_4 rfl rfl ?_
  refine b_iadd C dX2_restAt_5 ?_
  obtain ⟨x3, ex3, h4⟩ := lt1_inv h2; clear h2
  refine b_nmI ex3 ?_
  refine b_istore_n (lv' := [(2, .int x3), (0, .ref (ad 0)), (1, .int a1)]) C dX2_restAt_6 rfl (by decide) rfl ?_
  refine b_iload_n C 0 dX2_restAt_7 rfl rfl ?_
  refine b_if_lt (tgt := 29) C dX2_restAt_8 (by decide) (fun c5 => ?_) (fun c5 => ?_)
  · have h6 := ipos h4 c5; clear h4
    refine b_lconst (v := (0 : Int64)) C dX2_restAt_29 (by decide) ?_
    obtain ⟨rfl, rfl⟩ := so2 h6
    exact b_lret C dX2_restAt_30 hr
  have h7 := ineg h4 c5; clear h4
  refine b_iload_n C 0 dX2_restAt_11 rfl rfl ?_
  refine b_aload_n C 1 dX2_restAt_12 rfl rfl ?_
  refine gX2_41 C X dX2_restAt_13 ?_
  refine nX_12 C X dX2_restAt_16 ?_
  refine b_icmp_ge (tgt := 29) C dX2_restAt_17 (by decide) (fun c8 => ?_) (fun c8 => ?_)
  · have h9 := ipos h7 c8; clear h7
    refine b_lconst (v := (0 : Int64)) C dX2_restAt_29 (by decide) ?_
    obtain ⟨rfl, rfl⟩ := so2 h9
    exact b_lret C dX2_restAt_30 hr
  have h10 := ineg h7 c8; clear h7
  refine b_aload_n C 1 dX2_restAt_20 rfl rfl ?_
  refine gX2_41 C X dX2_restAt_21 ?_
  refine b_iload_n C 0 dX2_restAt_24 rfl rfl ?_
  obtain ⟨g12, h11⟩ := gdn h10; clear h10
  refine lX_12 C X g12 dX2_restAt_25 ?_
  refine b_goto (tgt := 30) C dX2_restAt_26 (by decide) ?_
  obtain ⟨rfl, rfl⟩ := so2 h11
  exact b_lret C dX2_restAt_30 hr
def rmX2_rest : Room := { frames := 3, cells := 0, slots := 0, locals := 83 }
def fX2_rest (N : Nat) (σ : St) (a1 : Int32) (a2 : Int32) (a3 : Int32) (a4 : Int32) : Option (Int64 × St) :=
  bd2 (fX2_isCorrect σ a1) fun r8 σ7 =>
  if r8 = (0 : Int32) then (
  some ((-9223372036854775808 : Int64), σ7))
  else (
  if a2 < (0 : Int32) then (
  some ((-9223372036854775808 : Int64), σ7))
  else (
  bd2 (fX2_collectRest N σ7 a1 a3) fun r17 σ16 =>
  if a2 < r17 then (
  bd2 (fX2_restAt σ16 a2) fun r23 σ22 =>
  bd2 (fX2_asFraction N σ22 r23 a4) fun r26 σ25 =>
  some (r26, σ25))
  else (
  some ((-9223372036854775808 : Int64), σ16))))
theorem ctX2_rest {l : Launch} {ad : Nat → Nat} {ca : Nat → ClassId} {N : Nat} {σ : St} {a1 : Int32} {a2 : Int32} {a3 : Int32} {a4 : Int32} {rf : Int64} {σf : St} (h : fX2_rest N σ a1 a2 a3 a4 = some (rf, σf)) : Cw l yX2_rest cX2_rest 5 (some .long) rmX2_rest [.ref (ad 0), .int a1, .int a2, .int a3, .int a4] (wX ad ca) (tyX ca) σ (some (.long rf)) σf := by
  refine Cw_of (by decide) (sameX ad ca) (Nat.le_of_ble_eq_true rfl) ?_
  intro p e s m args below meth c D A C X hr
  replace C : Cb p s m args meth c RX2 cX2_rest 5 := C
  have h5 := h; clear h
  refine b_sub (lv' := [(0, .ref (ad 0)), (1, .int a1), (2, .int a2), (3, .int a3), (4, .int a4)]) [0, 1, 2, 3, 4] rfl ?_
  refine b_aload_n C 0 dX2_rest_0 rfl rfl ?_
  refine b_iload_n C 1 dX2_rest_1 rfl rfl ?_
  obtain ⟨r8, σ7, ec6, h6⟩ := bd2_inv h5; clear h5
  refine b_callWi (rest := []) C (sameX ad ca) X dX2_rest_2 (ctX2_isCorrect ec6) mf_X2_isCorrect mi_X2_isCorrect kl_X2_125 0 rfl rfl rfl rfl ⟨rfl, rfl⟩ ⟨Nat.le_of_ble_eq_true rfl, Nat.le_of_ble_eq_true rfl⟩ ⟨Nat.zero_le _, Nat.zero_le _⟩ rfl (Nat.le_of_ble_eq_true rfl) ?_
  refine b_if_eq (tgt := 22) C dX2_rest_5 (by decide) (fun c9 => ?_) (fun c9 => ?_)
  · have h10 := ipos h6 c9; clear h6
    refine b_ldc2 (v := (-9223372036854775808 : Int64)) C dX2_rest_22 kc_X2_128 ?_
    obtain ⟨rfl, rfl⟩ := so2 h10
    exact b_lret C dX2_rest_25 hr
  have h11 := ineg h6 c9; clear h6
  refine b_iload_n C 2 dX2_rest_8 rfl rfl ?_
  refine b_if_lt (tgt := 22) C dX2_rest_9 (by decide) (fun c12 => ?_) (fun c12 => ?_)
  · have h13 := ipos h11 c12; clear h11
    refine b_ldc2 (v := (-9223372036854775808 : Int64)) C dX2_rest_22 kc_X2_128 ?_
    obtain ⟨rfl, rfl⟩ := so2 h13
    exact b_lret C dX2_rest_25 hr
  have h14 := ineg h11 c12; clear h11
  refine b_iload_n C 2 dX2_rest_12 rfl rfl ?_
  refine b_aload_n C 0 dX2_rest_13 rfl rfl ?_
  refine b_iload_n C 1 dX2_rest_14 rfl rfl ?_
  refine b_iload_n C 3 dX2_rest_15 rfl rfl ?_
  obtain ⟨r17, σ16, ec15, h15⟩ := bd2_inv h14; clear h14
  refine b_callWi (rest := [.int a2]) C (sameX ad ca) X dX2_rest_16 (ctX2_collectRest ec15) mf_X2_collectRest mi_X2_collectRest kl_X2_141 0 rfl rfl rfl rfl ⟨rfl, rfl⟩ ⟨Nat.le_of_ble_eq_true rfl, Nat.le_of_ble_eq_true rfl⟩ ⟨Nat.zero_le _, Nat.zero_le _⟩ rfl (Nat.le_of_ble_eq_true rfl) ?_
  refine b_icmp_lt (tgt := 26) C dX2_rest_19 (by decide) (fun c18 => ?_) (fun c18 => ?_)
  · have h19 := ipos h15 c18; clear h15
    refine b_aload_n C 0 dX2_rest_26 rfl rfl ?_
    refine b_aload_n C 0 dX2_rest_27 rfl rfl ?_
    refine b_iload_n C 2 dX2_rest_28 rfl rfl ?_
    obtain ⟨r23, σ22, ec21, h21⟩ := bd2_inv h19; clear h19
    refine b_callWl (rest := [.ref (ad 0)]) C (sameX ad ca) X dX2_rest_29 (ctX2_restAt ec21) mf_X2_restAt mi_X2_restAt kl_X2_145 0 rfl rfl rfl rfl ⟨rfl, rfl⟩ ⟨Nat.le_of_ble_eq_true rfl, Nat.le_of_ble_eq_true rfl⟩ ⟨Nat.zero_le _, Nat.zero_le _⟩ rfl (Nat.le_of_ble_eq_true rfl) ?_
    refine b_iload C 4 dX2_rest_32 rfl ?_
    obtain ⟨r26, σ25, ec24, h24⟩ := bd2_inv h21; clear h21
    refine b_callWl (rest := []) C (sameX ad ca) X dX2_rest_34 (ctX2_asFraction ec24) mf_X2_asFraction mi_X2_asFraction kl_X2_134 0 rfl rfl rfl rfl ⟨rfl, rfl⟩ ⟨Nat.le_of_ble_eq_true rfl, Nat.le_of_ble_eq_true rfl⟩ ⟨Nat.zero_le _, Nat.zero_le _⟩ rfl (Nat.le_of_ble_eq_true rfl) ?_
    obtain ⟨rfl, rfl⟩ := so2 h24
    exact b_lret C dX2_rest_37 hr
  have h20 := ineg h15 c18; clear h15
  refine b_ldc2 (v := (-9223372036854775808 : Int64)) C dX2_rest_22 kc_X2_128 ?_
  obtain ⟨rfl, rfl⟩ := so2 h20
  exact b_lret C dX2_rest_25 hr
