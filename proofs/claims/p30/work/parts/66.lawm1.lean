def rmL_digits : Room := { frames := 2, cells := 0, slots := 0, locals := 42 }
def fL_digits_34 (N : Nat) (q8 : St → Int32 → Int32 → Int32 → Int32 → Option (Int32 × St)) (σ24 : St) (x20 : Int32) (x21 : Int32) (x22 : Int32) (x23 : Int32) : Option (Int32 × St) :=
  if x23 = (0 : Int32) then (
  lt1 (x22 / (10 : Int32)) fun x29 =>
  q8 σ24 x20 x21 x23 x29)
  else (
  if x22 = (0 : Int32) then none else
  bd2 (fX2_type σ24 ((((48 : Int32) + ((x20 / x22) - (x20 / x22) / (10 : Int32) * (10 : Int32))).toUInt32 % 65536).toInt32)) fun r35 σ34 =>
  lt1 (x21 + (1 : Int32)) fun x36 =>
  lt1 (x22 / (10 : Int32)) fun x38 =>
  q8 σ34 x20 x36 x23 x38)
def fL_digits_29 (N : Nat) (q8 : St → Int32 → Int32 → Int32 → Int32 → Option (Int32 × St)) (σ18 : St) (x15 : Int32) (x16 : Int32) (x17 : Int32) : Option (Int32 × St) :=
  fL_digits_34 N q8 σ18 x15 x16 x17 (1 : Int32)
def fL_digits_8b (N : Nat) (q68 : St → Int32 → Option (Int32 × St)) (q8 : St → Int32 → Int32 → Int32 → Int32 → Option (Int32 × St)) (σ7 : St) (x3 : Int32) (x4 : Int32) (x5 : Int32) (x6 : Int32) : Option (Int32 × St) :=
  if x6 ≤ (0 : Int32) then (
  q68 σ7 x4)
  else (
  if x5 = (0 : Int32) then (
  if x6 ≤ x3 then (
  fL_digits_29 N q8 σ7 x3 x4 x6)
  else (
  if x6 = (1 : Int32) then (
  fL_digits_29 N q8 σ7 x3 x4 x6)
  else (
  fL_digits_34 N q8 σ7 x3 x4 x6 (0 : Int32))))
  else (
  fL_digits_29 N q8 σ7 x3 x4 x6))
def fL_digits_8 (N : Nat) (q68 : St → Int32 → Option (Int32 × St)) : Nat → St → Int32 → Int32 → Int32 → Int32 → Option (Int32 × St)
  | 0, _, _, _, _, _ => none
  | n + 1, σ, x3, x4, x5, x6 => fL_digits_8b N q68 (fL_digits_8 N q68 n) σ x3 x4 x5 x6
def fL_digits (N : Nat) (σ : St) (a1 : Int32) : Option (Int32 × St) :=
  fL_digits_8 N (fun σ47 x46 =>
 some (x46, σ47)) N σ a1 (0 : Int32) (0 : Int32) (100000 : Int32)
theorem wL_digits_34 {l : Launch} {p : Program} {e : Env} {s : State} {m : MethodId} {args : Array Value} {below : List Frame} {meth : Method} {c : Code} {D : va_G} {A : Nat → Prop} {ad : Nat → Nat} {ca : Nat → ClassId} {rf : Int32} {σf : St} (C : Cb p s m args meth c RL cL_digits 5) (X : Cx s D A (wX ad ca) (tyX ca)) (hr : meth.sig.returnType = (some .int)) {N : Nat} {q8 : St → Int32 → Int32 → Int32 → Int32 → Option (Int32 × St)} (hq8 : ∀ (σ : St) (y0 : Int32) (y1 : Int32) (y2 : Int32) (y3 : Int32), q8 σ y0 y1 y2 y3 = some (rf, σf) → bW p l e rmL_digits s m args below meth c 0 0 (MQ below (Qw D (wX ad ca) σf (some (.int rf)) A) args s 0 0 A) 5 (wd D A (wX ad ca) s σ) 8 [(0, .ref (ad 0)), (1, .int y0), (2, .int y1), (3, .int y2), (4, .int y3)] []) : ∀ (σ : St) (y0 : Int32) (y1 : Int32) (y2 : Int32) (y3 : Int32), fL_digits_34 N q8 σ y0 y1 y2 y3 = some (rf, σf) → bW p l e rmL_digits s m args below meth c 0 0 (MQ below (Qw D (wX ad ca) σf (some (.int rf)) A) args s 0 0 A) 5 (wd D A (wX ad ca) s σ) 34 [(0, .ref (ad 0)), (1, .int y0), (2, .int y1), (4, .int y2)] [.int y3] := by
  intro σ24 x20 x21 x22 x23 h25
  refine b_istore_n (lv' := [(3, .int x23), (0, .ref (ad 0)), (1, .int x20), (2, .int x21), (4, .int x22)]) C dL_digits_34 rfl (by decide) rfl ?_
  refine b_iload_n C 0 dL_digits_35 rfl rfl ?_
  refine b_if_eq (tgt := 58) C dL_digits_36 (by decide) (fun c26 => ?_) (fun c26 => ?_)
  · have h27 := ipos h25 c26; clear h25
    refine b_iload C 4 dL_digits_58 rfl ?_
    refine b_bipush (v := (10 : Int32)) C dL_digits_60 (by decide) ?_
    refine b_idiv C dL_digits_62 (by decide) ?_
    obtain ⟨x29, ex29, h30⟩ := lt1_inv h27; clear h27
    refine b_nmI ex29 ?_
    refine b_istore (lv' := [(4, .int x29), (3, .int x23), (0, .ref (ad 0)), (1, .int x20), (2, .int x21)]) C dL_digits_63 (by decide) rfl ?_
    refine b_goto (tgt := 8) C dL_digits_65 (by decide) ?_
    exact b_sub [2, 3, 4, 1, 0] rfl (hq8 _ _ _ _ _ h30)
  have h28 := ineg h25 c26; clear h25
  refine b_aload_n C 1 dL_digits_39 rfl rfl ?_
  refine b_bipush (v := (48 : Int32)) C dL_digits_40 (by decide) ?_
  refine b_iload_n C 2 dL_digits_42 rfl rfl ?_
  refine b_iload C 4 dL_digits_43 rfl ?_
  obtain ⟨g32, h31⟩ := gdn h28; clear h28
  refine b_idiv C dL_digits_45 g32 ?_
  refine b_bipush (v := (10 : Int32)) C dL_digits_46 (by decide) ?_
  refine b_irem C dL_digits_48 (by decide) ?_
  refine b_iadd C dL_digits_49 ?_
  refine b_i2c C dL_digits_50 ?_
  obtain ⟨r35, σ34, ec33, h33⟩ := bd2_inv h31; clear h31
  refine b_callWi (rest := []) C (sameX ad ca) X dL_digits_51 (ctX2_type ec33) mf_X2_type mi_X2_type kl_L_18 0 rfl rfl rfl rfl ⟨rfl, rfl⟩ ⟨Nat.le_of_ble_eq_true rfl, Nat.le_of_ble_eq_true rfl⟩ ⟨Nat.zero_le _, Nat.zero_le _⟩ rfl (Nat.le_of_ble_eq_true rfl) ?_
  refine b_pop C dL_digits_54 rfl ?_
  obtain ⟨x36, ex36, h37⟩ := lt1_inv h33; clear h33
  refine b_iinc (v := x36) (lv' := [(2, .int x36), (3, .int x23), (0, .ref (ad 0)), (1, .int x20), (4, .int x22)]) C 3 dL_digits_55 rfl (by rw [ex36]; rfl) (by decide) rfl ?_
  refine b_iload C 4 dL_digits_58 rfl ?_
  refine b_bipush (v := (10 : Int32)) C dL_digits_60 (by decide) ?_
  refine b_idiv C dL_digits_62 (by decide) ?_
  obtain ⟨x38, ex38, h39⟩ := lt1_inv h37; clear h37
  refine b_nmI ex38 ?_
  refine b_istore (lv' := [(4, .int x38), (2, .int x36), (3, .int x23), (0, .ref (ad 0)), (1, .int x20)]) C dL_digits_63 (by decide) rfl ?_
  refine b_goto (tgt := 8) C dL_digits_65 (by decide) ?_
  exact b_sub [3, 4, 1, 2, 0] rfl (hq8 _ _ _ _ _ h39)
theorem wL_digits_29 {l : Launch} {p : Program} {e : Env} {s : State} {m : MethodId} {args : Array Value} {below : List Frame} {meth : Method} {c : Code} {D : va_G} {A : Nat → Prop} {ad : Nat → Nat} {ca : Nat → ClassId} {rf : Int32} {σf : St} (C : Cb p s m args meth c RL cL_digits 5) (X : Cx s D A (wX ad ca) (tyX ca)) (hr : meth.sig.returnType = (some .int)) {N : Nat} {q8 : St → Int32 → Int32 → Int32 → Int32 → Option (Int32 × St)} (hq8 : ∀ (σ : St) (y0 : Int32) (y1 : Int32) (y2 : Int32) (y3 : Int32), q8 σ y0 y1 y2 y3 = some (rf, σf) → bW p l e rmL_digits s m args below meth c 0 0 (MQ below (Qw D (wX ad ca) σf (some (.int rf)) A) args s 0 0 A) 5 (wd D A (wX ad ca) s σ) 8 [(0, .ref (ad 0)), (1, .int y0), (2, .int y1), (3, .int y2), (4, .int y3)] []) : ∀ (σ : St) (y0 : Int32) (y1 : Int32) (y2 : Int32), fL_digits_29 N q8 σ y0 y1 y2 = some (rf, σf) → bW p l e rmL_digits s m args below meth c 0 0 (MQ below (Qw D (wX ad ca) σf (some (.int rf)) A) args s 0 0 A) 5 (wd D A (wX ad ca) s σ) 29 [(0, .ref (ad 0)), (1, .int y0), (2, .int y1), (4, .int y2)] [] := by
  intro σ18 x15 x16 x17 h19
  refine b_iconst (v := (1 : Int32)) C dL_digits_29 (by decide) ?_
  refine b_goto (tgt := 34) C dL_digits_30 (by decide) ?_
  exact b_sub [0, 1, 2, 3] rfl (wL_digits_34 C X hr hq8 _ _ _ _ _ h19)
theorem wL_digits_8 {l : Launch} {p : Program} {e : Env} {s : State} {m : MethodId} {args : Array Value} {below : List Frame} {meth : Method} {c : Code} {D : va_G} {A : Nat → Prop} {ad : Nat → Nat} {ca : Nat → ClassId} {rf : Int32} {σf : St} (C : Cb p s m args meth c RL cL_digits 5) (X : Cx s D A (wX ad ca) (tyX ca)) (hr : meth.sig.returnType = (some .int)) {N : Nat} {q68 : St → Int32 → Option (Int32 × St)} (hq68 : ∀ (σ : St) (y0 : Int32), q68 σ y0 = some (rf, σf) → bW p l e rmL_digits s m args below meth c 0 0 (MQ below (Qw D (wX ad ca) σf (some (.int rf)) A) args s 0 0 A) 5 (wd D A (wX ad ca) s σ) 68 [(2, .int y0)] []) : ∀ n : Nat, ∀ (σ : St) (y0 : Int32) (y1 : Int32) (y2 : Int32) (y3 : Int32), fL_digits_8 N q68 n σ y0 y1 y2 y3 = some (rf, σf) → bW p l e rmL_digits s m args below meth c 0 0 (MQ below (Qw D (wX ad ca) σf (some (.int rf)) A) args s 0 0 A) 5 (wd D A (wX ad ca) s σ) 8 [(0, .ref (ad 0)), (1, .int y0), (2, .int y1), (3, .int y2), (4, .int y3)] [] := by
  intro n
  induction n with
  | zero => intro σ7 x3 x4 x5 x6 h8; exact nn h8
  | succ n hq8 =>
    intro σ7 x3 x4 x5 x6 h8
    replace h8 : fL_digits_8b N q68 (fL_digits_8 N q68 n) σ7 x3 x4 x5 x6 = some (rf, σf) := h8
    refine b_iload C 4 dL_digits_8 rfl ?_
    refine b_if_le (tgt := 68) C dL_digits_10 (by decide) (fun c9 => ?_) (fun c9 => ?_)
    · have h10 := ipos h8 c9; clear h8
      exact b_sub [2] rfl (hq68 _ _ h10)
    have h11 := ineg h8 c9; clear h8
    refine b_iload_n C 3 dL_digits_13 rfl rfl ?_
    refine b_if_ne (tgt := 29) C dL_digits_14 (by decide) (fun c12 => ?_) (fun c12 => ?_)
    · have h13 := ineg h11 c12; clear h11
      exact b_sub [0, 1, 2, 4] rfl (wL_digits_29 C X hr hq8 _ _ _ _ h13)
    have h14 := ipos h11 c12; clear h11
    refine b_iload_n C 1 dL_digits_17 rfl rfl ?_
    refine b_iload C 4 dL_digits_18 rfl ?_
    refine b_icmp_ge (tgt := 29) C dL_digits_20 (by decide) (fun c40 => ?_) (fun c40 => ?_)
    · have h41 := ipos h14 c40; clear h14
      exact b_sub [0, 1, 2, 4] rfl (wL_digits_29 C X hr hq8 _ _ _ _ h41)
    have h42 := ineg h14 c40; clear h14
    refine b_iload C 4 dL_digits_23 rfl ?_
    refine b_iconst (v := (1 : Int32)) C dL_digits_25 (by decide) ?_
    refine b_icmp_ne (tgt := 33) C dL_digits_26 (by decide) (fun c43 => ?_) (fun c43 => ?_)
    · have h44 := ineg h42 c43; clear h42
      refine b_iconst (v := (0 : Int32)) C dL_digits_33 (by decide) ?_
      exact b_sub [0, 1, 2, 4] rfl (wL_digits_34 C X hr hq8 _ _ _ _ _ h44)
    have h45 := ipos h42 c43; clear h42
    exact b_sub [0, 1, 2, 4] rfl (wL_digits_29 C X hr hq8 _ _ _ _ h45)
theorem ctL_digits {l : Launch} {ad : Nat → Nat} {ca : Nat → ClassId} {N : Nat} {σ : St} {a1 : Int32} {rf : Int32} {σf : St} (h : fL_digits N σ a1 = some (rf, σf)) : Cw l yL_digits cL_digits 5 (some .int) rmL_digits [.ref (ad 0), .int a1] (wX ad ca) (tyX ca) σ (some (.int rf)) σf := by
  refine Cw_of (by decide) (sameX ad ca) (Nat.le_of_ble_eq_true rfl) ?_
  intro p e s m args below meth c D A C X hr
  replace C : Cb p s m args meth c RL cL_digits 5 := C
  have h2 := h; clear h
  refine b_sub (lv' := [(0, .ref (ad 0)), (1, .int a1)]) [0, 1] rfl ?_
  refine b_iconst (v := (0 : Int32)) C dL_digits_0 (by decide) ?_
  refine b_istore_n (lv' := [(2, .int (0 : Int32)), (0, .ref (ad 0)), (1, .int a1)]) C dL_digits_1 rfl (by decide) rfl ?_
  refine b_iconst (v := (0 : Int32)) C dL_digits_2 (by decide) ?_
  refine b_istore_n (lv' := [(3, .int (0 : Int32)), (2, .int (0 : Int32)), (0, .ref (ad 0)), (1, .int a1)]) C dL_digits_3 rfl (by decide) rfl ?_
  refine b_ldc (v := (100000 : Int32)) C dL_digits_4 kc_L_17 ?_
  refine b_istore (lv' := [(4, .int (100000 : Int32)), (3, .int (0 : Int32)), (2, .int (0 : Int32)), (0, .ref (ad 0)), (1, .int a1)]) C dL_digits_6 (by decide) rfl ?_
  refine b_sub [3, 4, 2, 1, 0] rfl (wL_digits_8 C X hr (fun σ47 x46 h48 => ?_) _ _ _ _ _ _ h2)
  refine b_iload_n C 0 dL_digits_68 rfl rfl ?_
  obtain ⟨rfl, rfl⟩ := so2 h48
  exact b_iret C dL_digits_69 hr
def rmL_down : Room := { frames := 0, cells := 0, slots := 0, locals := 0 }
def fL_down (a1 : Int64) (a2 : Int64) : Option Int64 :=
  if a2 = (0 : Int64) then none else
  lt1 (a1 / a2) fun x6 =>
  if (x6 * a2) ≤ a1 then (
  some x6)
  else (
  some (x6 - (1 : Int64)))
theorem ctL_down {l : Launch} {a1 : Int64} {a2 : Int64} {rf : Int64} (h : fL_down a1 a2 = some rf) : Cs l yL_down cL_down 6 (some .long) rmL_down [.long a1, .long a2] (some (.long rf)) := by
  refine Cs_of (by decide +kernel) (Nat.le_of_ble_eq_true rfl) ?_
  intro p e s m args below meth c C hr
  replace C : Cb p s m args meth c RL cL_down 6 := C
  have h3 := h; clear h
  refine b_sub (lv' := [(0, .long a1), (2, .long a2)]) [0, 1] rfl ?_
  refine b_lload_n C 0 dL_down_0 rfl rfl ?_
  refine b_lload_n C 1 dL_down_1 rfl rfl ?_
  obtain ⟨g5, h4⟩ := gdn h3; clear h3
  refine b_ldiv C dL_down_2 g5 ?_
  obtain ⟨x6, ex6, h7⟩ := lt1_inv h4; clear h4
  refine b_nmJ ex6 ?_
  refine b_lstore (lv' := [(4, .long x6), (0, .long a1), (2, .long a2)]) C dL_down_3 (by decide) rfl ?_
  refine b_lload C 0 dL_down_5 rfl ?_
  refine b_lload_n C 2 dL_down_7 rfl rfl ?_
  refine b_lmul C dL_down_8 ?_
  refine b_lload_n C 1 dL_down_9 rfl rfl ?_
  refine b_lc_le (tgt := 21) C dL_down_10 dL_down_11 (by decide) (fun c8 => ?_) (fun c8 => ?_)
  · have h9 := ipos h7 c8; clear h7
    refine b_lload C 0 dL_down_21 rfl ?_
    obtain rfl := so1 h9
    exact s_lret C dL_down_23 hr
  have h10 := ineg h7 c8; clear h7
  refine b_lload C 0 dL_down_14 rfl ?_
  refine b_lconst (v := (1 : Int64)) C dL_down_16 (by decide) ?_
  refine b_lsub C dL_down_17 ?_
  refine b_goto (tgt := 23) C dL_down_18 (by decide) ?_
  obtain rfl := so1 h10
  exact s_lret C dL_down_23 hr
def rmL_none : Room := { frames := 0, cells := 0, slots := 0, locals := 0 }
def fL_none : Option Int64 :=
  some (-9000000000000000000 : Int64)
theorem ctL_none {l : Launch} {rf : Int64} (h : fL_none = some rf) : Cs l yL_none cL_none 0 (some .long) rmL_none [] (some (.long rf)) := by
  refine Cs_of (by decide +kernel) (Nat.le_of_ble_eq_true rfl) ?_
  intro p e s m args below meth c C hr
  replace C : Cb p s m args meth c RL cL_none 0 := C
  have h1 := h; clear h
  refine b_sub (lv' := []) [] rfl ?_
  refine b_ldc2 (v := (-9000000000000000000 : Int64)) C dL_none_0 kc_L_9 ?_
  obtain rfl := so1 h1
  exact s_lret C dL_none_3 hr
def rmL_units : Room := { frames := 1, cells := 0, slots := 0, locals := 19 }
def fL_units (a1 : Int64) (a2 : Int64) (a3 : Int64) : Option Int64 :=
  bd0 (fL_none) fun r6 =>
  if r6 ≤ a1 then (
  if a2 = (0 : Int64) then none else
  some (a1 * (a3 / a2)))
  else (
  some a1)
theorem ctL_units {l : Launch} {a1 : Int64} {a2 : Int64} {a3 : Int64} {rf : Int64} (h : fL_units a1 a2 a3 = some rf) : Cs l yL_units cL_units 6 (some .long) rmL_units [.long a1, .long a2, .long a3] (some (.long rf)) := by
  refine Cs_of (by decide +kernel) (Nat.le_of_ble_eq_true rfl) ?_
  intro p e s m args below meth c C hr
  replace C : Cb p s m args meth c RL cL_units 6 := C
  have h4 := h; clear h
  refine b_sub (lv' := [(0, .long a1), (2, .long a2), (4, .long a3)]) [0, 1, 2] rfl ?_
  refine b_lload_n C 0 dL_units_0 rfl rfl ?_
  obtain ⟨r6, ec5, h5⟩ := bd0_inv h4; clear h4
  refine b_callSl (rest := [.long a1]) C dL_units_1 (ctL_none ec5) mf_L_none ms_L_none kl_L_11 rfl ⟨rfl, rfl⟩ ⟨Nat.le_of_ble_eq_true rfl, Nat.le_of_ble_eq_true rfl⟩ ⟨Nat.zero_le _, Nat.zero_le _⟩ rfl (Nat.le_of_ble_eq_true rfl) ?_
  refine b_lc_ge (tgt := 12) C dL_units_4 dL_units_5 (by decide) (fun c7 => ?_) (fun c7 => ?_)
  · have h8 := ipos h5 c7; clear h5
    refine b_lload_n C 0 dL_units_12 rfl rfl ?_
    refine b_lload C 2 dL_units_13 rfl ?_
    refine b_lload_n C 1 dL_units_15 rfl rfl ?_
    obtain ⟨g11, h10⟩ := gdn h8; clear h8
    refine b_ldiv C dL_units_16 g11 ?_
    refine b_lmul C dL_units_17 ?_
    obtain rfl := so1 h10
    exact s_lret C dL_units_18 hr
  have h9 := ineg h5 c7; clear h5
  refine b_lload_n C 0 dL_units_8 rfl rfl ?_
  refine b_goto (tgt := 18) C dL_units_9 (by decide) ?_
  obtain rfl := so1 h9
  exact s_lret C dL_units_18 hr
def rmL_due : Room := { frames := 5, cells := 0, slots := 0, locals := 111 }
def fL_due_119 (N : Nat) (q69 : St → Int32 → Int32 → Int32 → Int32 → Int32 → Int32 → Int32 → Int32 → Int32 → Int64 → Int32 → Option (Int64 × St)) (σ77 : St) (x64 : Int32) (x65 : Int32) (x66 : Int32) (x67 : Int32) (x68 : Int32) (x69 : Int32) (x70 : Int32) (x71 : Int32) (x72 : Int64) (x73 : Int32) (x74 : Int64) (x75 : Int32) (x76 : Int32) : Option (Int64 × St) :=
  lt1 (x76 + x75) fun x79 =>
  bd0 (fL_none) fun r82 =>
  if x74 ≤ r82 then (
  lt1 (x71 + (0 : Int32)) fun x86 =>
  lt1 (x73 + (1 : Int32)) fun x88 =>
  q69 σ77 x64 x65 x66 x67 x68 x69 x70 x79 x86 x72 x88)
  else (
  if x72 ≤ x74 then (
  lt1 (x71 + (0 : Int32)) fun x93 =>
  lt1 (x73 + (1 : Int32)) fun x95 =>
  q69 σ77 x64 x65 x66 x67 x68 x69 x70 x79 x93 x72 x95)
  else (
  lt1 (x71 + (1 : Int32)) fun x97 =>
  lt1 (x73 + (1 : Int32)) fun x99 =>
  q69 σ77 x64 x65 x66 x67 x68 x69 x70 x79 x97 x72 x99))
def fL_due_69b (N : Nat) (q155 : St → Int32 → Int32 → Int32 → Int32 → Int32 → Int32 → Int32 → Int32 → Int64 → Option (Int64 × St)) (q69 : St → Int32 → Int32 → Int32 → Int32 → Int32 → Int32 → Int32 → Int32 → Int32 → Int64 → Int32 → Option (Int64 × St)) (σ46 : St) (x35 : Int32) (x36 : Int32) (x37 : Int32) (x38 : Int32) (x39 : Int32) (x40 : Int32) (x41 : Int32) (x42 : Int32) (x43 : Int32) (x44 : Int64) (x45 : Int32) : Option (Int64 × St) :=
  if x35 ≤ x45 then (
  q155 σ46 x36 x37 x38 x39 x40 x41 x42 x43 x44)
  else (
  bd2 (fX2_received N σ46 x37 x45 x41 (0 : Int32)) fun r53 σ52 =>
  bd2 (fX2_received N σ52 x37 x45 x41 (1 : Int32)) fun r56 σ55 =>
  bd0 (fL_units r53 r56 (x38.toInt64)) fun r58 =>
  bd0 (fL_none) fun r60 =>
  if r58 ≤ r60 then (
  fL_due_119 N q69 σ55 x35 x36 x37 x38 x39 x40 x41 x43 x44 x45 r58 (0 : Int32) x42)
  else (
  fL_due_119 N q69 σ55 x35 x36 x37 x38 x39 x40 x41 x43 x44 x45 r58 (1 : Int32) x42))
def fL_due_69 (N : Nat) (q155 : St → Int32 → Int32 → Int32 → Int32 → Int32 → Int32 → Int32 → Int32 → Int64 → Option (Int64 × St)) : Nat → St → Int32 → Int32 → Int32 → Int32 → Int32 → Int32 → Int32 → Int32 → Int32 → Int64 → Int32 → Option (Int64 × St)
  | 0, _, _, _, _, _, _, _, _, _, _, _, _ => none
  | n + 1, σ, x35, x36, x37, x38, x39, x40, x41, x42, x43, x44, x45 => fL_due_69b N q155 (fL_due_69 N q155 n) σ x35 x36 x37 x38 x39 x40 x41 x42 x43 x44 x45
def fL_due_348 (N : Nat) (q261 : St → Int32 → Int32 → Int32 → Int32 → Int32 → Int32 → Int64 → Int32 → Int64 → Int64 → Int32 → Int32 → Int64 → Int64 → Int32 → Option (Int64 × St)) (σ226 : St) (x210 : Int32) (x211 : Int32) (x212 : Int32) (x213 : Int32) (x214 : Int32) (x215 : Int32) (x216 : Int64) (x217 : Int32) (x218 : Int64) (x219 : Int64) (x220 : Int32) (x221 : Int32) (x222 : Int64) (x223 : Int32) (x224 : Int64) (x225 : Int64) : Option (Int64 × St) :=
  if x221 = (0 : Int32) then none else
  if (x223 - x223 / x221 * x221) = (0 : Int32) then (
  lt1 (x219 + x224) fun x248 =>
  if x221 = (0 : Int32) then none else
  if (x223 - x223 / x221 * x221) = (0 : Int32) then (
  lt1 (x220 + (1 : Int32)) fun x259 =>
  lt1 (x223 + (1 : Int32)) fun x261 =>
  q261 σ226 x210 x211 x212 x213 x214 x215 x216 x217 x218 x248 x259 x221 x222 x225 x261)
  else (
  lt1 (x220 + (0 : Int32)) fun x255 =>
  lt1 (x223 + (1 : Int32)) fun x257 =>
  q261 σ226 x210 x211 x212 x213 x214 x215 x216 x217 x218 x248 x255 x221 x222 x225 x257))
  else (
  lt1 (x219 + (0 : Int64)) fun x233 =>
  if x221 = (0 : Int32) then none else
  if (x223 - x223 / x221 * x221) = (0 : Int32) then (
  lt1 (x220 + (1 : Int32)) fun x244 =>
  lt1 (x223 + (1 : Int32)) fun x246 =>
  q261 σ226 x210 x211 x212 x213 x214 x215 x216 x217 x218 x233 x244 x221 x222 x225 x246)
  else (
  lt1 (x220 + (0 : Int32)) fun x240 =>
  lt1 (x223 + (1 : Int32)) fun x242 =>
  q261 σ226 x210 x211 x212 x213 x214 x215 x216 x217 x218 x233 x240 x221 x222 x225 x242))
def fL_due_330 (N : Nat) (q261 : St → Int32 → Int32 → Int32 → Int32 → Int32 → Int32 → Int64 → Int32 → Int64 → Int64 → Int32 → Int32 → Int64 → Int64 → Int32 → Option (Int64 × St)) (σ205 : St) (x189 : Int32) (x190 : Int32) (x191 : Int32) (x192 : Int32) (x193 : Int32) (x194 : Int32) (x195 : Int64) (x196 : Int32) (x197 : Int64) (x198 : Int64) (x199 : Int32) (x200 : Int32) (x201 : Int64) (x202 : Int32) (x203 : Int64) (x204 : Int64) : Option (Int64 × St) :=
  if x202 = (x196 / (2 : Int32)) then (
  fL_due_348 N q261 σ205 x189 x190 x191 x192 x193 x194 x195 x196 x197 x198 x199 x200 x204 x202 x203 x203)
  else (
  fL_due_348 N q261 σ205 x189 x190 x191 x192 x193 x194 x195 x196 x197 x198 x199 x200 x204 x202 x203 x201)
def fL_due_261b (N : Nat) (q393 : St → Int32 → Int32 → Int32 → Int32 → Int32 → Int64 → Int32 → Int64 → Int64 → Int32 → Int64 → Int64 → Option (Int64 × St)) (q261 : St → Int32 → Int32 → Int32 → Int32 → Int32 → Int32 → Int64 → Int32 → Int64 → Int64 → Int32 → Int32 → Int64 → Int64 → Int32 → Option (Int64 × St)) (σ170 : St) (x155 : Int32) (x156 : Int32) (x157 : Int32) (x158 : Int32) (x159 : Int32) (x160 : Int32) (x161 : Int64) (x162 : Int32) (x163 : Int64) (x164 : Int64) (x165 : Int32) (x166 : Int32) (x167 : Int64) (x168 : Int64) (x169 : Int32) : Option (Int64 × St) :=
  if x162 ≤ x169 then (
  q393 σ170 x155 x156 x158 x159 x160 x161 x162 x163 x164 x165 x167 x168)
  else (
  bd2 (fX2_rest N σ170 x156 x169 x159 (0 : Int32)) fun r177 σ176 =>
  bd2 (fX2_rest N σ176 x156 x169 x159 (1 : Int32)) fun r180 σ179 =>
  bd0 (fL_units r177 r180 (x157.toInt64)) fun r182 =>
  if x163 ≤ r182 then (
  if x169 = ((x162 - (1 : Int32)) / (2 : Int32)) then (
  fL_due_330 N q261 σ179 x155 x156 x157 x158 x159 x160 x161 x162 r182 x164 x165 x166 x168 x169 r182 r182)
  else (
  fL_due_330 N q261 σ179 x155 x156 x157 x158 x159 x160 x161 x162 r182 x164 x165 x166 x168 x169 r182 x167))
  else (
  bd0 (fL_none) fun r264 =>
  some (r264, σ179)))
def fL_due_261 (N : Nat) (q393 : St → Int32 → Int32 → Int32 → Int32 → Int32 → Int64 → Int32 → Int64 → Int64 → Int32 → Int64 → Int64 → Option (Int64 × St)) : Nat → St → Int32 → Int32 → Int32 → Int32 → Int32 → Int32 → Int64 → Int32 → Int64 → Int64 → Int32 → Int32 → Int64 → Int64 → Int32 → Option (Int64 × St)
  | 0, _, _, _, _, _, _, _, _, _, _, _, _, _, _, _, _ => none
  | n + 1, σ, x155, x156, x157, x158, x159, x160, x161, x162, x163, x164, x165, x166, x167, x168, x169 => fL_due_261b N q393 (fL_due_261 N q393 n) σ x155 x156 x157 x158 x159 x160 x161 x162 x163 x164 x165 x166 x167 x168 x169
def fL_due_250 (N : Nat) (σ153 : St) (x141 : Int32) (x142 : Int32) (x143 : Int32) (x144 : Int32) (x145 : Int32) (x146 : Int32) (x147 : Int64) (x148 : Int32) (x149 : Int64) (x150 : Int64) (x151 : Int32) (x152 : Int32) : Option (Int64 × St) :=
  fL_due_261 N (fun σ277 x265 x266 x267 x268 x269 x270 x271 x272 x273 x274 x275 x276 =>
 if x265 < x269 then (
  bd0 (fL_none) fun r283 =>
  some (r283, σ277))
  else (
  bd2 (fX2_rest N σ277 x266 x271 x268 (0 : Int32)) fun r286 σ285 =>
  bd0 (fL_none) fun r288 =>
  if r288 < r286 then (
  bd0 (fL_none) fun r293 =>
  some (r293, σ285))
  else (
  bd2 (fX2_rest N σ285 x266 (-1 : Int32) x268 (0 : Int32)) fun r296 σ295 =>
  bd0 (fL_none) fun r298 =>
  if r296 ≤ r298 then (
  if x267 = (1 : Int32) then (
  bd0 (fL_down (x270 + x272) (2 : Int64)) fun r313 =>
  some (r313, σ295))
  else (
  if x267 = (2 : Int32) then (
  bd0 (fL_down (x275 + x276) (2 : Int64)) fun r311 =>
  some (r311, σ295))
  else (
  bd0 (fL_down x273 (x274.toInt64)) fun r309 =>
  some (r309, σ295))))
  else (
  bd0 (fL_none) fun r315 =>
  some (r315, σ295))))) N σ153 x141 x142 x143 x144 x145 x146 x147 x148 x149 x150 x151 x152 (0 : Int64) (0 : Int64) (0 : Int32)
def fL_due_249 (N : Nat) (σ139 : St) (x128 : Int32) (x129 : Int32) (x130 : Int32) (x131 : Int32) (x132 : Int32) (x133 : Int32) (x134 : Int64) (x135 : Int32) (x136 : Int64) (x137 : Int64) (x138 : Int32) : Option (Int64 × St) :=
  fL_due_250 N σ139 x128 x129 x130 x131 x132 x133 x134 x135 x136 x137 x138 (1 : Int32)
def fL_due_32 (N : Nat) (σ25 : St) (x18 : Int32) (x19 : Int32) (x20 : Int32) (x21 : Int32) (x22 : Int32) (x23 : Int32) (x24 : Int32) : Option (Int64 × St) :=
  bd2 (fX2_rest N σ25 x20 (0 : Int32) x24 (0 : Int32)) fun r29 σ28 =>
  bd2 (fX2_rest N σ28 x20 (0 : Int32) x24 (1 : Int32)) fun r32 σ31 =>
  bd0 (fL_units r29 r32 (x21.toInt64)) fun r34 =>
  fL_due_69 N (fun σ110 x101 x102 x103 x104 x105 x106 x107 x108 x109 =>
 bd2 (fX2_value N σ110 x102 x105 x106 (0 : Int32)) fun r114 σ113 =>
  bd2 (fX2_value N σ113 x102 x105 x106 (1 : Int32)) fun r117 σ116 =>
  bd0 (fL_units r114 r117 (x103.toInt64)) fun r119 =>
  if ((2 : Int32) * x101) < x107 then (
  lt1 (x107 - ((2 : Int32) * x101)) fun x123 =>
  if x104 = (3 : Int32) then (
  if x101 ≤ (1 : Int32) then (
  fL_due_249 N σ116 x101 x102 x103 x104 x106 x108 x109 x123 x109 (0 : Int64) (0 : Int32))
  else (
  fL_due_250 N σ116 x101 x102 x103 x104 x106 x108 x109 x123 x109 (0 : Int64) (0 : Int32) x101))
  else (
  fL_due_249 N σ116 x101 x102 x103 x104 x106 x108 x109 x123 x109 (0 : Int64) (0 : Int32)))
  else (
  bd2 (fX2_rest N σ116 x102 (0 : Int32) x106 (1 : Int32)) fun r321 σ320 =>
  bd0 (fL_none) fun r323 =>
  if r321 ≤ r323 then (
  some (r119, σ320))
  else (
  bd0 (fL_none) fun r328 =>
  some (r328, σ320)))) N σ31 x18 x19 x20 x21 x22 x23 x24 (0 : Int32) (0 : Int32) r34 (0 : Int32)
def fL_due (N : Nat) (σ : St) (a1 : Int32) (a2 : Int32) (a3 : Int32) (a4 : Int32) : Option (Int64 × St) :=
  bd2 (fX2_count N σ (2 : Int32)) fun r8 σ7 =>
  bd2 (fX2_count N σ7 (5 : Int32)) fun r11 σ10 =>
  bd2 (fX2_count N σ10 (3 : Int32)) fun r14 σ13 =>
  if a4 = (1 : Int32) then (
  fL_due_32 N σ13 a1 a2 a3 r8 r11 r14 (1 : Int32))
  else (
  fL_due_32 N σ13 a1 a2 a3 r8 r11 r14 (0 : Int32))
theorem wL_due_119 {l : Launch} {p : Program} {e : Env} {s : State} {m : MethodId} {args : Array Value} {below : List Frame} {meth : Method} {c : Code} {D : va_G} {A : Nat → Prop} {ad : Nat → Nat} {ca : Nat → ClassId} {rf : Int64} {σf : St} (C : Cb p s m args meth c RL cL_due 29) (X : Cx s D A (wX ad ca) (tyX ca)) (hr : meth.sig.returnType = (some .long)) {N : Nat} {q69 : St → Int32 → Int32 → Int32 → Int32 → Int32 → Int32 → Int32 → Int32 → Int32 → Int64 → Int32 → Option (Int64 × St)} (hq69 : ∀ (σ : St) (y0 : Int32) (y1 : Int32) (y2 : Int32) (y3 : Int32) (y4 : Int32) (y5 : Int32) (y6 : Int32) (y7 : Int32) (y8 : Int32) (y9 : Int64) (y10 : Int32), q69 σ y0 y1 y2 y3 y4 y5 y6 y7 y8 y9 y10 = some (rf, σf) → bW p l e rmL_due s m args below meth c 0 0 (MQ below (Qw D (wX ad ca) σf (some (.long rf)) A) args s 0 0 A) 29 (wd D A (wX ad ca) s σ) 69 [(0, .ref (ad 0)), (1, .int y0), (2, .int y1), (3, .int y2), (5, .int y3), (6, .int y4), (7, .int y5), (8, .int y6), (9, .int y7), (10, .int y8), (11, .long y9), (13, .int y10)] []) : ∀ (σ : St) (y0 : Int32) (y1 : Int32) (y2 : Int32) (y3 : Int32) (y4 : Int32) (y5 : Int32) (y6 : Int32) (y7 : Int32) (y8 : Int64) (y9 : Int32) (y10 : Int64) (y11 : Int32) (y12 : Int32), fL_due_119 N q69 σ y0 y1 y2 y3 y4 y5 y6 y7 y8 y9 y10 y11 y12 = some (rf, σf) → bW p l e rmL_due s m args below meth c 0 0 (MQ below (Qw D (wX ad ca) σf (some (.long rf)) A) args s 0 0 A) 29 (wd D A (wX ad ca) s σ) 119 [(0, .ref (ad 0)), (1, .int y0), (2, .int y1), (3, .int y2), (5, .int y3), (6, .int y4), (7, .int y5), (8, .int y6), (10, .int y7), (11, .long y8), (13, .int y9), (14, .long y10)] [.int y11, .int y12] := by
  intro σ77 x64 x65 x66 x67 x68 x69 x70 x71 x72 x73 x74 x75 x76 h78
  refine b_iadd C dL_due_119 ?_
  obtain ⟨x79, ex79, h80⟩ := lt1_inv h78; clear h78
  refine b_nmI ex79 ?_
  refine b_istore (lv' := [(9, .int x79), (0, .ref (ad 0)), (1, .int x64), (2, .int x65), (3, .int x66), (5, .int x67), (6, .int x68), (7, .int x69), (8, .int x70), (10, .int x71), (11, .long x72), (13, .int x73), (14, .long x74)]) C dL_due_120 (by decide) rfl ?_
  refine b_iload C 9 dL_due_122 rfl ?_
  refine b_lload C 12 dL_due_124 rfl ?_
  obtain ⟨r82, ec81, h81⟩ := bd0_inv h80; clear h80
  refine b_callSl (rest := [.long x74, .int x71]) C dL_due_126 (ctL_none ec81) mf_L_none ms_L_none kl_L_11 rfl ⟨rfl, rfl⟩ ⟨Nat.le_of_ble_eq_true rfl, Nat.le_of_ble_eq_true rfl⟩ ⟨Nat.zero_le _, Nat.zero_le _⟩ rfl (Nat.le_of_ble_eq_true rfl) ?_
  refine b_lc_le (tgt := 145) C dL_due_129 dL_due_130 (by decide) (fun c83 => ?_) (fun c83 => ?_)
  · have h84 := ipos h81 c83; clear h81
    refine b_iconst (v := (0 : Int32)) C dL_due_145 (by decide) ?_
    refine b_iadd C dL_due_146 ?_
    obtain ⟨x86, ex86, h87⟩ := lt1_inv h84; clear h84
    refine b_nmI ex86 ?_
    refine b_istore (lv' := [(10, .int x86), (9, .int x79), (0, .ref (ad 0)), (1, .int x64), (2, .int x65), (3, .int x66), (5, .int x67), (6, .int x68), (7, .int x69), (8, .int x70), (11, .long x72), (13, .int x73), (14, .long x74)]) C dL_due_147 (by decide) rfl ?_
    obtain ⟨x88, ex88, h89⟩ := lt1_inv h87; clear h87
    refine b_iinc (v := x88) (lv' := [(13, .int x88), (10, .int x86), (9, .int x79), (0, .ref (ad 0)), (1, .int x64), (2, .int x65), (3, .int x66), (5, .int x67), (6, .int x68), (7, .int x69), (8, .int x70), (11, .long x72), (14, .long x74)]) C 11 dL_due_149 rfl (by rw [ex88]; rfl) (by decide) rfl ?_
    refine b_goto (tgt := 69) C dL_due_152 (by decide) ?_
    exact b_sub [3, 4, 5, 6, 7, 8, 9, 10, 2, 1, 11, 0] rfl (hq69 _ _ _ _ _ _ _ _ _ _ _ _ h89)
  have h85 := ineg h81 c83; clear h81
  refine b_lload C 12 dL_due_133 rfl ?_
  refine b_lload C 10 dL_due_135 rfl ?_
  refine b_lc_ge (tgt := 145) C dL_due_137 dL_due_138 (by decide) (fun c90 => ?_) (fun c90 => ?_)
  · have h91 := ipos h85 c90; clear h85
    refine b_iconst (v := (0 : Int32)) C dL_due_145 (by decide) ?_
    refine b_iadd C dL_due_146 ?_
    obtain ⟨x93, ex93, h94⟩ := lt1_inv h91; clear h91
    refine b_nmI ex93 ?_
    refine b_istore (lv' := [(10, .int x93), (9, .int x79), (0, .ref (ad 0)), (1, .int x64), (2, .int x65), (3, .int x66), (5, .int x67), (6, .int x68), (7, .int x69), (8, .int x70), (11, .long x72), (13, .int x73), (14, .long x74)]) C dL_due_147 (by decide) rfl ?_
    obtain ⟨x95, ex95, h96⟩ := lt1_inv h94; clear h94
    refine b_iinc (v := x95) (lv' := [(13, .int x95), (10, .int x93), (9, .int x79), (0, .ref (ad 0)), (1, .int x64), (2, .int x65), (3, .int x66), (5, .int x67), (6, .int x68), (7, .int x69), (8, .int x70), (11, .long x72), (14, .long x74)]) C 11 dL_due_149 rfl (by rw [ex95]; rfl) (by decide) rfl ?_
    refine b_goto (tgt := 69) C dL_due_152 (by decide) ?_
    exact b_sub [3, 4, 5, 6, 7, 8, 9, 10, 2, 1, 11, 0] rfl (hq69 _ _ _ _ _ _ _ _ _ _ _ _ h96)
  have h92 := ineg h85 c90; clear h85
  refine b_iconst (v := (1 : Int32)) C dL_due_141 (by decide) ?_
  refine b_goto (tgt := 146) C dL_due_142 (by decide) ?_
  refine b_iadd C dL_due_146 ?_
  obtain ⟨x97, ex97, h98⟩ := lt1_inv h92; clear h92
  refine b_nmI ex97 ?_
  refine b_istore (lv' := [(10, .int x97), (9, .int x79), (0, .ref (ad 0)), (1, .int x64), (2, .int x65), (3, .int x66), (5, .int x67), (6, .int x68), (7, .int x69), (8, .int x70), (11, .long x72), (13, .int x73), (14, .long x74)]) C dL_due_147 (by decide) rfl ?_
  obtain ⟨x99, ex99, h100⟩ := lt1_inv h98; clear h98
  refine b_iinc (v := x99) (lv' := [(13, .int x99), (10, .int x97), (9, .int x79), (0, .ref (ad 0)), (1, .int x64), (2, .int x65), (3, .int x66), (5, .int x67), (6, .int x68), (7, .int x69), (8, .int x70), (11, .long x72), (14, .long x74)]) C 11 dL_due_149 rfl (by rw [ex99]; rfl) (by decide) rfl ?_
  refine b_goto (tgt := 69) C dL_due_152 (by decide) ?_
  exact b_sub [3, 4, 5, 6, 7, 8, 9, 10, 2, 1, 11, 0] rfl (hq69 _ _ _ _ _ _ _ _ _ _ _ _ h100)
theorem wL_due_69 {l : Launch} {p : Program} {e : Env} {s : State} {m : MethodId} {args : Array Value} {below : List Frame} {meth : Method} {c : Code} {D : va_G} {A : Nat → Prop} {ad : Nat → Nat} {ca : Nat → ClassId} {rf : Int64} {σf : St} (C : Cb p s m args meth c RL cL_due 29) (X : Cx s D A (wX ad ca) (tyX ca)) (hr : meth.sig.returnType = (some .long)) {N : Nat} {q155 : St → Int32 → Int32 → Int32 → Int32 → Int32 → Int32 → Int32 → Int32 → Int64 → Option (Int64 × St)} (hq155 : ∀ (σ : St) (y0 : Int32) (y1 : Int32) (y2 : Int32) (y3 : Int32) (y4 : Int32) (y5 : Int32) (y6 : Int32) (y7 : Int32) (y8 : Int64), q155 σ y0 y1 y2 y3 y4 y5 y6 y7 y8 = some (rf, σf) → bW p l e rmL_due s m args below meth c 0 0 (MQ below (Qw D (wX ad ca) σf (some (.long rf)) A) args s 0 0 A) 29 (wd D A (wX ad ca) s σ) 155 [(0, .ref (ad 0)), (2, .int y0), (3, .int y1), (5, .int y2), (6, .int y3), (7, .int y4), (8, .int y5), (9, .int y6), (10, .int y7), (11, .long y8)] []) : ∀ n : Nat, ∀ (σ : St) (y0 : Int32) (y1 : Int32) (y2 : Int32) (y3 : Int32) (y4 : Int32) (y5 : Int32) (y6 : Int32) (y7 : Int32) (y8 : Int32) (y9 : Int64) (y10 : Int32), fL_due_69 N q155 n σ y0 y1 y2 y3 y4 y5 y6 y7 y8 y9 y10 = some (rf, σf) → bW p l e rmL_due s m args below meth c 0 0 (MQ below (Qw D (wX ad ca) σf (some (.long rf)) A) args s 0 0 A) 29 (wd D A (wX ad ca) s σ) 69 [(0, .ref (ad 0)), (1, .int y0), (2, .int y1), (3, .int y2), (5, .int y3), (6, .int y4), (7, .int y5), (8, .int y6), (9, .int y7), (10, .int y8), (11, .long y9), (13, .int y10)] [] := by
  intro n
  induction n with
  | zero => intro σ46 x35 x36 x37 x38 x39 x40 x41 x42 x43 x44 x45 h47; exact nn h47
  | succ n hq69 =>
    intro σ46 x35 x36 x37 x38 x39 x40 x41 x42 x43 x44 x45 h47
    replace h47 : fL_due_69b N q155 (fL_due_69 N q155 n) σ46 x35 x36 x37 x38 x39 x40 x41 x42 x43 x44 x45 = some (rf, σf) := h47
    refine b_iload C 11 dL_due_69 rfl ?_
    refine b_iload_n C 1 dL_due_71 rfl rfl ?_
    refine b_icmp_ge (tgt := 155) C dL_due_72 (by decide) (fun c48 => ?_) (fun c48 => ?_)
    · have h49 := ipos h47 c48; clear h47
      exact b_sub [0, 2, 3, 4, 5, 6, 7, 8, 9, 10] rfl (hq155 _ _ _ _ _ _ _ _ _ _ h49)
    have h50 := ineg h47 c48; clear h47
    refine b_aload_n C 0 dL_due_75 rfl rfl ?_
    refine b_iload_n C 3 dL_due_76 rfl rfl ?_
    refine b_iload C 11 dL_due_77 rfl ?_
    refine b_iload C 7 dL_due_79 rfl ?_
    refine b_iconst (v := (0 : Int32)) C dL_due_81 (by decide) ?_
    obtain ⟨r53, σ52, ec51, h51⟩ := bd2_inv h50; clear h50
    refine b_callWl (rest := []) C (sameX ad ca) X dL_due_82 (ctX2_received ec51) mf_X2_received mi_X2_received kl_L_68 0 rfl rfl rfl rfl ⟨rfl, rfl⟩ ⟨Nat.le_of_ble_eq_true rfl, Nat.le_of_ble_eq_true rfl⟩ ⟨Nat.zero_le _, Nat.zero_le _⟩ rfl (Nat.le_of_ble_eq_true rfl) ?_
    refine b_aload_n C 0 dL_due_85 rfl rfl ?_
    refine b_iload_n C 3 dL_due_86 rfl rfl ?_
    refine b_iload C 11 dL_due_87 rfl ?_
    refine b_iload C 7 dL_due_89 rfl ?_
    refine b_iconst (v := (1 : Int32)) C dL_due_91 (by decide) ?_
    obtain ⟨r56, σ55, ec54, h54⟩ := bd2_inv h51; clear h51
    refine b_callWl (rest := [.long r53]) C (sameX ad ca) X dL_due_92 (ctX2_received ec54) mf_X2_received mi_X2_received kl_L_68 0 rfl rfl rfl rfl ⟨rfl, rfl⟩ ⟨Nat.le_of_ble_eq_true rfl, Nat.le_of_ble_eq_true rfl⟩ ⟨Nat.zero_le _, Nat.zero_le _⟩ rfl (Nat.le_of_ble_eq_true rfl) ?_
    refine b_iload C 4 dL_due_95 rfl ?_
    refine b_i2l C dL_due_97 ?_
    obtain ⟨r58, ec57, h57⟩ := bd0_inv h54; clear h54
    refine b_callSl (rest := []) C dL_due_98 (ctL_units ec57) mf_L_units ms_L_units kl_L_54 rfl ⟨rfl, rfl⟩ ⟨Nat.le_of_ble_eq_true rfl, Nat.le_of_ble_eq_true rfl⟩ ⟨Nat.zero_le _, Nat.zero_le _⟩ rfl (Nat.le_of_ble_eq_true rfl) ?_
    refine b_lstore (lv' := [(14, .long r58), (0, .ref (ad 0)), (1, .int x35), (2, .int x36), (3, .int x37), (5, .int x38), (6, .int x39), (7, .int x40), (8, .int x41), (9, .int x42), (10, .int x43), (11, .long x44), (13, .int x45)]) C dL_due_101 (by decide) rfl ?_
    refine b_iload C 9 dL_due_103 rfl ?_
    refine b_lload C 0 dL_due_105 rfl ?_
    obtain ⟨r60, ec59, h59⟩ := bd0_inv h57; clear h57
    refine b_callSl (rest := [.long r58, .int x42]) C dL_due_107 (ctL_none ec59) mf_L_none ms_L_none kl_L_11 rfl ⟨rfl, rfl⟩ ⟨Nat.le_of_ble_eq_true rfl, Nat.le_of_ble_eq_true rfl⟩ ⟨Nat.zero_le _, Nat.zero_le _⟩ rfl (Nat.le_of_ble_eq_true rfl) ?_
    refine b_lc_le (tgt := 118) C dL_due_110 dL_due_111 (by decide) (fun c61 => ?_) (fun c61 => ?_)
    · have h62 := ipos h59 c61; clear h59
      refine b_iconst (v := (0 : Int32)) C dL_due_118 (by decide) ?_
      exact b_sub [1, 2, 3, 4, 5, 6, 7, 8, 10, 11, 12, 0] rfl (wL_due_119 C X hr hq69 _ _ _ _ _ _ _ _ _ _ _ _ _ _ h62)
    have h63 := ineg h59 c61; clear h59
    refine b_iconst (v := (1 : Int32)) C dL_due_114 (by decide) ?_
    refine b_goto (tgt := 119) C dL_due_115 (by decide) ?_
    exact b_sub [1, 2, 3, 4, 5, 6, 7, 8, 10, 11, 12, 0] rfl (wL_due_119 C X hr hq69 _ _ _ _ _ _ _ _ _ _ _ _ _ _ h63)
theorem wL_due_348 {l : Launch} {p : Program} {e : Env} {s : State} {m : MethodId} {args : Array Value} {below : List Frame} {meth : Method} {c : Code} {D : va_G} {A : Nat → Prop} {ad : Nat → Nat} {ca : Nat → ClassId} {rf : Int64} {σf : St} (C : Cb p s m args meth c RL cL_due 29) (X : Cx s D A (wX ad ca) (tyX ca)) (hr : meth.sig.returnType = (some .long)) {N : Nat} {q261 : St → Int32 → Int32 → Int32 → Int32 → Int32 → Int32 → Int64 → Int32 → Int64 → Int64 → Int32 → Int32 → Int64 → Int64 → Int32 → Option (Int64 × St)} (hq261 : ∀ (σ : St) (y0 : Int32) (y1 : Int32) (y2 : Int32) (y3 : Int32) (y4 : Int32) (y5 : Int32) (y6 : Int64) (y7 : Int32) (y8 : Int64) (y9 : Int64) (y10 : Int32) (y11 : Int32) (y12 : Int64) (y13 : Int64) (y14 : Int32), q261 σ y0 y1 y2 y3 y4 y5 y6 y7 y8 y9 y10 y11 y12 y13 y14 = some (rf, σf) → bW p l e rmL_due s m args below meth c 0 0 (MQ below (Qw D (wX ad ca) σf (some (.long rf)) A) args s 0 0 A) 29 (wd D A (wX ad ca) s σ) 261 [(0, .ref (ad 0)), (2, .int y0), (3, .int y1), (5, .int y2), (6, .int y3), (8, .int y4), (10, .int y5), (11, .long y6), (15, .int y7), (16, .long y8), (18, .long y9), (20, .int y10), (21, .int y11), (22, .long y12), (24, .long y13), (26, .int y14)] []) : ∀ (σ : St) (y0 : Int32) (y1 : Int32) (y2 : Int32) (y3 : Int32) (y4 : Int32) (y5 : Int32) (y6 : Int64) (y7 : Int32) (y8 : Int64) (y9 : Int64) (y10 : Int32) (y11 : Int32) (y12 : Int64) (y13 : Int32) (y14 : Int64) (y15 : Int64), fL_due_348 N q261 σ y0 y1 y2 y3 y4 y5 y6 y7 y8 y9 y10 y11 y12 y13 y14 y15 = some (rf, σf) → bW p l e rmL_due s m args below meth c 0 0 (MQ below (Qw D (wX ad ca) σf (some (.long rf)) A) args s 0 0 A) 29 (wd D A (wX ad ca) s σ) 348 [(0, .ref (ad 0)), (2, .int y0), (3, .int y1), (5, .int y2), (6, .int y3), (8, .int y4), (10, .int y5), (11, .long y6), (15, .int y7), (16, .long y8), (18, .long y9), (20, .int y10), (21, .int y11), (22, .long y12), (26, .int y13), (27, .long y14)] [.long y15] := by
  intro σ226 x210 x211 x212 x213 x214 x215 x216 x217 x218 x219 x220 x221 x222 x223 x224 x225 h227
  refine b_lstore (lv' := [(24, .long x225), (0, .ref (ad 0)), (2, .int x210), (3, .int x211), (5, .int x212), (6, .int x213), (8, .int x214), (10, .int x215), (11, .long x216), (15, .int x217), (16, .long x218), (18, .long x219), (20, .int x220), (21, .int x221), (22, .long x222), (26, .int x223), (27, .long x224)]) C dL_due_348 (by decide) rfl ?_
  refine b_lload C 11 dL_due_350 rfl ?_
  refine b_iload C 15 dL_due_352 rfl ?_
  refine b_iload C 13 dL_due_354 rfl ?_
  obtain ⟨g229, h228⟩ := gdn h227; clear h227
  refine b_irem C dL_due_356 g229 ?_
  refine b_if_ne (tgt := 365) C dL_due_357 (by decide) (fun c230 => ?_) (fun c230 => ?_)
  · have h231 := ineg h228 c230; clear h228
    refine b_lconst (v := (0 : Int64)) C dL_due_365 (by decide) ?_
    refine b_ladd C dL_due_366 ?_
    obtain ⟨x233, ex233, h234⟩ := lt1_inv h231; clear h231
    refine b_nmJ ex233 ?_
    refine b_lstore (lv' := [(18, .long x233), (24, .long x225), (0, .ref (ad 0)), (2, .int x210), (3, .int x211), (5, .int x212), (6, .int x213), (8, .int x214), (10, .int x215), (11, .long x216), (15, .int x217), (16, .long x218), (20, .int x220), (21, .int x221), (22, .long x222), (26, .int x223), (27, .long x224)]) C dL_due_367 (by decide) rfl ?_
    refine b_iload C 12 dL_due_369 rfl ?_
    refine b_iload C 15 dL_due_371 rfl ?_
    refine b_iload C 13 dL_due_373 rfl ?_
    obtain ⟨g236, h235⟩ := gdn h234; clear h234
    refine b_irem C dL_due_375 g236 ?_
    refine b_if_ne (tgt := 383) C dL_due_376 (by decide) (fun c237 => ?_) (fun c237 => ?_)
    · have h238 := ineg h235 c237; clear h235
      refine b_iconst (v := (0 : Int32)) C dL_due_383 (by decide) ?_
      refine b_iadd C dL_due_384 ?_
      obtain ⟨x240, ex240, h241⟩ := lt1_inv h238; clear h238
      refine b_nmI ex240 ?_
      refine b_istore (lv' := [(20, .int x240), (18, .long x233), (24, .long x225), (0, .ref (ad 0)), (2, .int x210), (3, .int x211), (5, .int x212), (6, .int x213), (8, .int x214), (10, .int x215), (11, .long x216), (15, .int x217), (16, .long x218), (21, .int x221), (22, .long x222), (26, .int x223), (27, .long x224)]) C dL_due_385 (by decide) rfl ?_
      obtain ⟨x242, ex242, h243⟩ := lt1_inv h241; clear h241
      refine b_iinc (v := x242) (lv' := [(26, .int x242), (20, .int x240), (18, .long x233), (24, .long x225), (0, .ref (ad 0)), (2, .int x210), (3, .int x211), (5, .int x212), (6, .int x213), (8, .int x214), (10, .int x215), (11, .long x216), (15, .int x217), (16, .long x218), (21, .int x221), (22, .long x222), (27, .long x224)]) C 15 dL_due_387 rfl (by rw [ex242]; rfl) (by decide) rfl ?_
      refine b_goto (tgt := 261) C dL_due_390 (by decide) ?_
      exact b_sub [4, 5, 6, 7, 8, 9, 10, 11, 12, 13, 2, 1, 14, 15, 3, 0] rfl (hq261 _ _ _ _ _ _ _ _ _ _ _ _ _ _ _ _ h243)
    have h239 := ipos h235 c237; clear h235
    refine b_iconst (v := (1 : Int32)) C dL_due_379 (by decide) ?_
    refine b_goto (tgt := 384) C dL_due_380 (by decide) ?_
    refine b_iadd C dL_due_384 ?_
    obtain ⟨x244, ex244, h245⟩ := lt1_inv h239; clear h239
    refine b_nmI ex244 ?_
    refine b_istore (lv' := [(20, .int x244), (18, .long x233), (24, .long x225), (0, .ref (ad 0)), (2, .int x210), (3, .int x211), (5, .int x212), (6, .int x213), (8, .int x214), (10, .int x215), (11, .long x216), (15, .int x217), (16, .long x218), (21, .int x221), (22, .long x222), (26, .int x223), (27, .long x224)]) C dL_due_385 (by decide) rfl ?_
    obtain ⟨x246, ex246, h247⟩ := lt1_inv h245; clear h245
    refine b_iinc (v := x246) (lv' := [(26, .int x246), (20, .int x244), (18, .long x233), (24, .long x225), (0, .ref (ad 0)), (2, .int x210), (3, .int x211), (5, .int x212), (6, .int x213), (8, .int x214), (10, .int x215), (11, .long x216), (15, .int x217), (16, .long x218), (21, .int x221), (22, .long x222), (27, .long x224)]) C 15 dL_due_387 rfl (by rw [ex246]; rfl) (by decide) rfl ?_
    refine b_goto (tgt := 261) C dL_due_390 (by decide) ?_
    exact b_sub [4, 5, 6, 7, 8, 9, 10, 11, 12, 13, 2, 1, 14, 15, 3, 0] rfl (hq261 _ _ _ _ _ _ _ _ _ _ _ _ _ _ _ _ h247)
  have h232 := ipos h228 c230; clear h228
  refine b_lload C 16 dL_due_360 rfl ?_
  refine b_goto (tgt := 366) C dL_due_362 (by decide) ?_
  refine b_ladd C dL_due_366 ?_
  obtain ⟨x248, ex248, h249⟩ := lt1_inv h232; clear h232
  refine b_nmJ ex248 ?_
  refine b_lstore (lv' := [(18, .long x248), (24, .long x225), (0, .ref (ad 0)), (2, .int x210), (3, .int x211), (5, .int x212), (6, .int x213), (8, .int x214), (10, .int x215), (11, .long x216), (15, .int x217), (16, .long x218), (20, .int x220), (21, .int x221), (22, .long x222), (26, .int x223), (27, .long x224)]) C dL_due_367 (by decide) rfl ?_
  refine b_iload C 12 dL_due_369 rfl ?_
  refine b_iload C 15 dL_due_371 rfl ?_
  refine b_iload C 13 dL_due_373 rfl ?_
  obtain ⟨g251, h250⟩ := gdn h249; clear h249
  refine b_irem C dL_due_375 g251 ?_
  refine b_if_ne (tgt := 383) C dL_due_376 (by decide) (fun c252 => ?_) (fun c252 => ?_)
  · have h253 := ineg h250 c252; clear h250
    refine b_iconst (v := (0 : Int32)) C dL_due_383 (by decide) ?_
    refine b_iadd C dL_due_384 ?_
    obtain ⟨x255, ex255, h256⟩ := lt1_inv h253; clear h253
    refine b_nmI ex255 ?_
    refine b_istore (lv' := [(20, .int x255), (18, .long x248), (24, .long x225), (0, .ref (ad 0)), (2, .int x210), (3, .int x211), (5, .int x212), (6, .int x213), (8, .int x214), (10, .int x215), (11, .long x216), (15, .int x217), (16, .long x218), (21, .int x221), (22, .long x222), (26, .int x223), (27, .long x224)]) C dL_due_385 (by decide) rfl ?_
    obtain ⟨x257, ex257, h258⟩ := lt1_inv h256; clear h256
    refine b_iinc (v := x257) (lv' := [(26, .int x257), (20, .int x255), (18, .long x248), (24, .long x225), (0, .ref (ad 0)), (2, .int x210), (3, .int x211), (5, .int x212), (6, .int x213), (8, .int x214), (10, .int x215), (11, .long x216), (15, .int x217), (16, .long x218), (21, .int x221), (22, .long x222), (27, .long x224)]) C 15 dL_due_387 rfl (by rw [ex257]; rfl) (by decide) rfl ?_
    refine b_goto (tgt := 261) C dL_due_390 (by decide) ?_
    exact b_sub [4, 5, 6, 7, 8, 9, 10, 11, 12, 13, 2, 1, 14, 15, 3, 0] rfl (hq261 _ _ _ _ _ _ _ _ _ _ _ _ _ _ _ _ h258)
  have h254 := ipos h250 c252; clear h250
  refine b_iconst (v := (1 : Int32)) C dL_due_379 (by decide) ?_
  refine b_goto (tgt := 384) C dL_due_380 (by decide) ?_
  refine b_iadd C dL_due_384 ?_
  obtain ⟨x259, ex259, h260⟩ := lt1_inv h254; clear h254
  refine b_nmI ex259 ?_
  refine b_istore (lv' := [(20, .int x259), (18, .long x248), (24, .long x225), (0, .ref (ad 0)), (2, .int x210), (3, .int x211), (5, .int x212), (6, .int x213), (8, .int x214), (10, .int x215), (11, .long x216), (15, .int x217), (16, .long x218), (21, .int x221), (22, .long x222), (26, .int x223), (27, .long x224)]) C dL_due_385 (by decide) rfl ?_
  obtain ⟨x261, ex261, h262⟩ := lt1_inv h260; clear h260
  refine b_iinc (v := x261) (lv' := [(26, .int x261), (20, .int x259), (18, .long x248), (24, .long x225), (0, .ref (ad 0)), (2, .int x210), (3, .int x211), (5, .int x212), (6, .int x213), (8, .int x214), (10, .int x215), (11, .long x216), (15, .int x217), (16, .long x218), (21, .int x221), (22, .long x222), (27, .long x224)]) C 15 dL_due_387 rfl (by rw [ex261]; rfl) (by decide) rfl ?_
  refine b_goto (tgt := 261) C dL_due_390 (by decide) ?_
  exact b_sub [4, 5, 6, 7, 8, 9, 10, 11, 12, 13, 2, 1, 14, 15, 3, 0] rfl (hq261 _ _ _ _ _ _ _ _ _ _ _ _ _ _ _ _ h262)
theorem wL_due_330 {l : Launch} {p : Program} {e : Env} {s : State} {m : MethodId} {args : Array Value} {below : List Frame} {meth : Method} {c : Code} {D : va_G} {A : Nat → Prop} {ad : Nat → Nat} {ca : Nat → ClassId} {rf : Int64} {σf : St} (C : Cb p s m args meth c RL cL_due 29) (X : Cx s D A (wX ad ca) (tyX ca)) (hr : meth.sig.returnType = (some .long)) {N : Nat} {q261 : St → Int32 → Int32 → Int32 → Int32 → Int32 → Int32 → Int64 → Int32 → Int64 → Int64 → Int32 → Int32 → Int64 → Int64 → Int32 → Option (Int64 × St)} (hq261 : ∀ (σ : St) (y0 : Int32) (y1 : Int32) (y2 : Int32) (y3 : Int32) (y4 : Int32) (y5 : Int32) (y6 : Int64) (y7 : Int32) (y8 : Int64) (y9 : Int64) (y10 : Int32) (y11 : Int32) (y12 : Int64) (y13 : Int64) (y14 : Int32), q261 σ y0 y1 y2 y3 y4 y5 y6 y7 y8 y9 y10 y11 y12 y13 y14 = some (rf, σf) → bW p l e rmL_due s m args below meth c 0 0 (MQ below (Qw D (wX ad ca) σf (some (.long rf)) A) args s 0 0 A) 29 (wd D A (wX ad ca) s σ) 261 [(0, .ref (ad 0)), (2, .int y0), (3, .int y1), (5, .int y2), (6, .int y3), (8, .int y4), (10, .int y5), (11, .long y6), (15, .int y7), (16, .long y8), (18, .long y9), (20, .int y10), (21, .int y11), (22, .long y12), (24, .long y13), (26, .int y14)] []) : ∀ (σ : St) (y0 : Int32) (y1 : Int32) (y2 : Int32) (y3 : Int32) (y4 : Int32) (y5 : Int32) (y6 : Int64) (y7 : Int32) (y8 : Int64) (y9 : Int64) (y10 : Int32) (y11 : Int32) (y12 : Int64) (y13 : Int32) (y14 : Int64) (y15 : Int64), fL_due_330 N q261 σ y0 y1 y2 y3 y4 y5 y6 y7 y8 y9 y10 y11 y12 y13 y14 y15 = some (rf, σf) → bW p l e rmL_due s m args below meth c 0 0 (MQ below (Qw D (wX ad ca) σf (some (.long rf)) A) args s 0 0 A) 29 (wd D A (wX ad ca) s σ) 330 [(0, .ref (ad 0)), (2, .int y0), (3, .int y1), (5, .int y2), (6, .int y3), (8, .int y4), (10, .int y5), (11, .long y6), (15, .int y7), (16, .long y8), (18, .long y9), (20, .int y10), (21, .int y11), (24, .long y12), (26, .int y13), (27, .long y14)] [.long y15] := by
  intro σ205 x189 x190 x191 x192 x193 x194 x195 x196 x197 x198 x199 x200 x201 x202 x203 x204 h206
  refine b_lstore (lv' := [(22, .long x204), (0, .ref (ad 0)), (2, .int x189), (3, .int x190), (5, .int x191), (6, .int x192), (8, .int x193), (10, .int x194), (11, .long x195), (15, .int x196), (16, .long x197), (18, .long x198), (20, .int x199), (21, .int x200), (24, .long x201), (26, .int x202), (27, .long x203)]) C dL_due_330 (by decide) rfl ?_
  refine b_iload C 15 dL_due_332 rfl ?_
  refine b_iload C 9 dL_due_334 rfl ?_
  refine b_iconst (v := (2 : Int32)) C dL_due_336 (by decide) ?_
  refine b_idiv C dL_due_337 (by decide) ?_
  refine b_icmp_ne (tgt := 346) C dL_due_338 (by decide) (fun c207 => ?_) (fun c207 => ?_)
  · have h208 := ineg h206 c207; clear h206
    refine b_lload C 14 dL_due_346 rfl ?_
    exact b_sub [1, 2, 3, 4, 5, 6, 7, 8, 9, 10, 11, 12, 13, 0, 15, 16] rfl (wL_due_348 C X hr hq261 _ _ _ _ _ _ _ _ _ _ _ _ _ _ _ _ _ h208)
  have h209 := ipos h206 c207; clear h206
  refine b_lload C 16 dL_due_341 rfl ?_
  refine b_goto (tgt := 348) C dL_due_343 (by decide) ?_
  exact b_sub [1, 2, 3, 4, 5, 6, 7, 8, 9, 10, 11, 12, 13, 0, 15, 16] rfl (wL_due_348 C X hr hq261 _ _ _ _ _ _ _ _ _ _ _ _ _ _ _ _ _ h209)
theorem wL_due_261 {l : Launch} {p : Program} {e : Env} {s : State} {m : MethodId} {args : Array Value} {below : List Frame} {meth : Method} {c : Code} {D : va_G} {A : Nat → Prop} {ad : Nat → Nat} {ca : Nat → ClassId} {rf : Int64} {σf : St} (C : Cb p s m args meth c RL cL_due 29) (X : Cx s D A (wX ad ca) (tyX ca)) (hr : meth.sig.returnType = (some .long)) {N : Nat} {q393 : St → Int32 → Int32 → Int32 → Int32 → Int32 → Int64 → Int32 → Int64 → Int64 → Int32 → Int64 → Int64 → Option (Int64 × St)} (hq393 : ∀ (σ : St) (y0 : Int32) (y1 : Int32) (y2 : Int32) (y3 : Int32) (y4 : Int32) (y5 : Int64) (y6 : Int32) (y7 : Int64) (y8 : Int64) (y9 : Int32) (y10 : Int64) (y11 : Int64), q393 σ y0 y1 y2 y3 y4 y5 y6 y7 y8 y9 y10 y11 = some (rf, σf) → bW p l e rmL_due s m args below meth c 0 0 (MQ below (Qw D (wX ad ca) σf (some (.long rf)) A) args s 0 0 A) 29 (wd D A (wX ad ca) s σ) 393 [(0, .ref (ad 0)), (2, .int y0), (3, .int y1), (6, .int y2), (8, .int y3), (10, .int y4), (11, .long y5), (15, .int y6), (16, .long y7), (18, .long y8), (20, .int y9), (22, .long y10), (24, .long y11)] []) : ∀ n : Nat, ∀ (σ : St) (y0 : Int32) (y1 : Int32) (y2 : Int32) (y3 : Int32) (y4 : Int32) (y5 : Int32) (y6 : Int64) (y7 : Int32) (y8 : Int64) (y9 : Int64) (y10 : Int32) (y11 : Int32) (y12 : Int64) (y13 : Int64) (y14 : Int32), fL_due_261 N q393 n σ y0 y1 y2 y3 y4 y5 y6 y7 y8 y9 y10 y11 y12 y13 y14 = some (rf, σf) → bW p l e rmL_due s m args below meth c 0 0 (MQ below (Qw D (wX ad ca) σf (some (.long rf)) A) args s 0 0 A) 29 (wd D A (wX ad ca) s σ) 261 [(0, .ref (ad 0)), (2, .int y0), (3, .int y1), (5, .int y2), (6, .int y3), (8, .int y4), (10, .int y5), (11, .long y6), (15, .int y7), (16, .long y8), (18, .long y9), (20, .int y10), (21, .int y11), (22, .long y12), (24, .long y13), (26, .int y14)] [] := by
  intro n
  induction n with
  | zero => intro σ170 x155 x156 x157 x158 x159 x160 x161 x162 x163 x164 x165 x166 x167 x168 x169 h171; exact nn h171
  | succ n hq261 =>
    intro σ170 x155 x156 x157 x158 x159 x160 x161 x162 x163 x164 x165 x166 x167 x168 x169 h171
    replace h171 : fL_due_261b N q393 (fL_due_261 N q393 n) σ170 x155 x156 x157 x158 x159 x160 x161 x162 x163 x164 x165 x166 x167 x168 x169 = some (rf, σf) := h171
    refine b_iload C 15 dL_due_261 rfl ?_
    refine b_iload C 8 dL_due_263 rfl ?_
    refine b_icmp_ge (tgt := 393) C dL_due_265 (by decide) (fun c172 => ?_) (fun c172 => ?_)
    · have h173 := ipos h171 c172; clear h171
      exact b_sub [0, 1, 2, 4, 5, 6, 7, 8, 9, 10, 11, 13, 14] rfl (hq393 _ _ _ _ _ _ _ _ _ _ _ _ _ h173)
    have h174 := ineg h171 c172; clear h171
    refine b_aload_n C 0 dL_due_268 rfl rfl ?_
    refine b_iload_n C 2 dL_due_269 rfl rfl ?_
    refine b_iload C 15 dL_due_270 rfl ?_
    refine b_iload C 5 dL_due_272 rfl ?_
    refine b_iconst (v := (0 : Int32)) C dL_due_274 (by decide) ?_
    obtain ⟨r177, σ176, ec175, h175⟩ := bd2_inv h174; clear h174
    refine b_callWl (rest := []) C (sameX ad ca) X dL_due_275 (ctX2_rest ec175) mf_X2_rest mi_X2_rest kl_L_65 0 rfl rfl rfl rfl ⟨rfl, rfl⟩ ⟨Nat.le_of_ble_eq_true rfl, Nat.le_of_ble_eq_true rfl⟩ ⟨Nat.zero_le _, Nat.zero_le _⟩ rfl (Nat.le_of_ble_eq_true rfl) ?_
    refine b_aload_n C 0 dL_due_278 rfl rfl ?_
    refine b_iload_n C 2 dL_due_279 rfl rfl ?_
    refine b_iload C 15 dL_due_280 rfl ?_
    refine b_iload C 5 dL_due_282 rfl ?_
    refine b_iconst (v := (1 : Int32)) C dL_due_284 (by decide) ?_
    obtain ⟨r180, σ179, ec178, h178⟩ := bd2_inv h175; clear h175
    refine b_callWl (rest := [.long r177]) C (sameX ad ca) X dL_due_285 (ctX2_rest ec178) mf_X2_rest mi_X2_rest kl_L_65 0 rfl rfl rfl rfl ⟨rfl, rfl⟩ ⟨Nat.le_of_ble_eq_true rfl, Nat.le_of_ble_eq_true rfl⟩ ⟨Nat.zero_le _, Nat.zero_le _⟩ rfl (Nat.le_of_ble_eq_true rfl) ?_
    refine b_iload C 3 dL_due_288 rfl ?_
    refine b_i2l C dL_due_290 ?_
    obtain ⟨r182, ec181, h181⟩ := bd0_inv h178; clear h178
    refine b_callSl (rest := []) C dL_due_291 (ctL_units ec181) mf_L_units ms_L_units kl_L_54 rfl ⟨rfl, rfl⟩ ⟨Nat.le_of_ble_eq_true rfl, Nat.le_of_ble_eq_true rfl⟩ ⟨Nat.zero_le _, Nat.zero_le _⟩ rfl (Nat.le_of_ble_eq_true rfl) ?_
    refine b_lstore (lv' := [(27, .long r182), (0, .ref (ad 0)), (2, .int x155), (3, .int x156), (5, .int x157), (6, .int x158), (8, .int x159), (10, .int x160), (11, .long x161), (15, .int x162), (16, .long x163), (18, .long x164), (20, .int x165), (21, .int x166), (22, .long x167), (24, .long x168), (26, .int x169)]) C dL_due_294 (by decide) rfl ?_
    refine b_lload C 0 dL_due_296 rfl ?_
    refine b_lload C 10 dL_due_298 rfl ?_
    refine b_lc_ge (tgt := 308) C dL_due_300 dL_due_301 (by decide) (fun c183 => ?_) (fun c183 => ?_)
    · have h184 := ipos h181 c183; clear h181
      refine b_lload C 0 dL_due_308 rfl ?_
      refine b_lstore (lv' := [(16, .long r182), (27, .long r182), (0, .ref (ad 0)), (2, .int x155), (3, .int x156), (5, .int x157), (6, .int x158), (8, .int x159), (10, .int x160), (11, .long x161), (15, .int x162), (18, .long x164), (20, .int x165), (21, .int x166), (22, .long x167), (24, .long x168), (26, .int x169)]) C dL_due_310 (by decide) rfl ?_
      refine b_iload C 16 dL_due_312 rfl ?_
      refine b_iload C 10 dL_due_314 rfl ?_
      refine b_iconst (v := (1 : Int32)) C dL_due_316 (by decide) ?_
      refine b_isub C dL_due_317 ?_
      refine b_iconst (v := (2 : Int32)) C dL_due_318 (by decide) ?_
      refine b_idiv C dL_due_319 (by decide) ?_
      refine b_icmp_ne (tgt := 328) C dL_due_320 (by decide) (fun c186 => ?_) (fun c186 => ?_)
      · have h187 := ineg h184 c186; clear h184
        refine b_lload C 14 dL_due_328 rfl ?_
        exact b_sub [2, 3, 4, 5, 6, 7, 8, 9, 10, 0, 11, 12, 13, 15, 16, 1] rfl (wL_due_330 C X hr hq261 _ _ _ _ _ _ _ _ _ _ _ _ _ _ _ _ _ h187)
      have h188 := ipos h184 c186; clear h184
      refine b_lload C 1 dL_due_323 rfl ?_
      refine b_goto (tgt := 330) C dL_due_325 (by decide) ?_
      exact b_sub [2, 3, 4, 5, 6, 7, 8, 9, 10, 0, 11, 12, 13, 15, 16, 1] rfl (wL_due_330 C X hr hq261 _ _ _ _ _ _ _ _ _ _ _ _ _ _ _ _ _ h188)
    have h185 := ineg h181 c183; clear h181
    obtain ⟨r264, ec263, h263⟩ := bd0_inv h185; clear h185
    refine b_callSl (rest := []) C dL_due_304 (ctL_none ec263) mf_L_none ms_L_none kl_L_11 rfl ⟨rfl, rfl⟩ ⟨Nat.le_of_ble_eq_true rfl, Nat.le_of_ble_eq_true rfl⟩ ⟨Nat.zero_le _, Nat.zero_le _⟩ rfl (Nat.le_of_ble_eq_true rfl) ?_
    obtain ⟨rfl, rfl⟩ := so2 h263
    exact b_lret C dL_due_307 hr
theorem wL_due_250 {l : Launch} {p : Program} {e : Env} {s : State} {m : MethodId} {args : Array Value} {below : List Frame} {meth : Method} {c : Code} {D : va_G} {A : Nat → Prop} {ad : Nat → Nat} {ca : Nat → ClassId} {rf : Int64} {σf : St} (C : Cb p s m args meth c RL cL_due 29) (X : Cx s D A (wX ad ca) (tyX ca)) (hr : meth.sig.returnType = (some .long)) {N : Nat} : ∀ (σ : St) (y0 : Int32) (y1 : Int32) (y2 : Int32) (y3 : Int32) (y4 : Int32) (y5 : Int32) (y6 : Int64) (y7 : Int32) (y8 : Int64) (y9 : Int64) (y10 : Int32) (y11 : Int32), fL_due_250 N σ y0 y1 y2 y3 y4 y5 y6 y7 y8 y9 y10 y11 = some (rf, σf) → bW p l e rmL_due s m args below meth c 0 0 (MQ below (Qw D (wX ad ca) σf (some (.long rf)) A) args s 0 0 A) 29 (wd D A (wX ad ca) s σ) 250 [(0, .ref (ad 0)), (2, .int y0), (3, .int y1), (5, .int y2), (6, .int y3), (8, .int y4), (10, .int y5), (11, .long y6), (15, .int y7), (16, .long y8), (18, .long y9), (20, .int y10)] [.int y11] := by
  intro σ153 x141 x142 x143 x144 x145 x146 x147 x148 x149 x150 x151 x152 h154
  refine b_istore (lv' := [(21, .int x152), (0, .ref (ad 0)), (2, .int x141), (3, .int x142), (5, .int x143), (6, .int x144), (8, .int x145), (10, .int x146), (11, .long x147), (15, .int x148), (16, .long x149), (18, .long x150), (20, .int x151)]) C dL_due_250 (by decide) rfl ?_
  refine b_lconst (v := (0 : Int64)) C dL_due_252 (by decide) ?_
  refine b_lstore (lv' := [(22, .long (0 : Int64)), (21, .int x152), (0, .ref (ad 0)), (2, .int x141), (3, .int x142), (5, .int x143), (6, .int x144), (8, .int x145), (10, .int x146), (11, .long x147), (15, .int x148), (16, .long x149), (18, .long x150), (20, .int x151)]) C dL_due_253 (by decide) rfl ?_
  refine b_lconst (v := (0 : Int64)) C dL_due_255 (by decide) ?_
  refine b_lstore (lv' := [(24, .long (0 : Int64)), (22, .long (0 : Int64)), (21, .int x152), (0, .ref (ad 0)), (2, .int x141), (3, .int x142), (5, .int x143), (6, .int x144), (8, .int x145), (10, .int x146), (11, .long x147), (15, .int x148), (16, .long x149), (18, .long x150), (20, .int x151)]) C dL_due_256 (by decide) rfl ?_
  refine b_iconst (v := (0 : Int32)) C dL_due_258 (by decide) ?_
  refine b_istore (lv' := [(26, .int (0 : Int32)), (24, .long (0 : Int64)), (22, .long (0 : Int64)), (21, .int x152), (0, .ref (ad 0)), (2, .int x141), (3, .int x142), (5, .int x143), (6, .int x144), (8, .int x145), (10, .int x146), (11, .long x147), (15, .int x148), (16, .long x149), (18, .long x150), (20, .int x151)]) C dL_due_259 (by decide) rfl ?_
  refine b_sub [4, 5, 6, 7, 8, 9, 10, 11, 12, 13, 14, 15, 3, 2, 1, 0] rfl (wL_due_261 C X hr (fun σ277 x265 x266 x267 x268 x269 x270 x271 x272 x273 x274 x275 x276 h278 => ?_) _ _ _ _ _ _ _ _ _ _ _ _ _ _ _ _ _ h154)
  refine b_iload C 5 dL_due_393 rfl ?_
  refine b_iload_n C 1 dL_due_395 rfl rfl ?_
  refine b_icmp_gt (tgt := 432) C dL_due_396 (by decide) (fun c279 => ?_) (fun c279 => ?_)
  · have h280 := ipos h278 c279; clear h278
    obtain ⟨r283, ec282, h282⟩ := bd0_inv h280; clear h280
    refine b_callSl (rest := []) C dL_due_432 (ctL_none ec282) mf_L_none ms_L_none kl_L_11 rfl ⟨rfl, rfl⟩ ⟨Nat.le_of_ble_eq_true rfl, Nat.le_of_ble_eq_true rfl⟩ ⟨Nat.zero_le _, Nat.zero_le _⟩ rfl (Nat.le_of_ble_eq_true rfl) ?_
    obtain ⟨rfl, rfl⟩ := so2 h282
    exact b_lret C dL_due_435 hr
  have h281 := ineg h278 c279; clear h278
  refine b_aload_n C 0 dL_due_399 rfl rfl ?_
  refine b_iload_n C 2 dL_due_400 rfl rfl ?_
  refine b_iload C 7 dL_due_401 rfl ?_
  refine b_iload C 4 dL_due_403 rfl ?_
  refine b_iconst (v := (0 : Int32)) C dL_due_405 (by decide) ?_
  obtain ⟨r286, σ285, ec284, h284⟩ := bd2_inv h281; clear h281
  refine b_callWl (rest := []) C (sameX ad ca) X dL_due_406 (ctX2_rest ec284) mf_X2_rest mi_X2_rest kl_L_65 0 rfl rfl rfl rfl ⟨rfl, rfl⟩ ⟨Nat.le_of_ble_eq_true rfl, Nat.le_of_ble_eq_true rfl⟩ ⟨Nat.zero_le _, Nat.zero_le _⟩ rfl (Nat.le_of_ble_eq_true rfl) ?_
  obtain ⟨r288, ec287, h287⟩ := bd0_inv h284; clear h284
  refine b_callSl (rest := [.long r286]) C dL_due_409 (ctL_none ec287) mf_L_none ms_L_none kl_L_11 rfl ⟨rfl, rfl⟩ ⟨Nat.le_of_ble_eq_true rfl, Nat.le_of_ble_eq_true rfl⟩ ⟨Nat.zero_le _, Nat.zero_le _⟩ rfl (Nat.le_of_ble_eq_true rfl) ?_
  refine b_lc_gt (tgt := 432) C dL_due_412 dL_due_413 (by decide) (fun c289 => ?_) (fun c289 => ?_)
  · have h290 := ipos h287 c289; clear h287
    obtain ⟨r293, ec292, h292⟩ := bd0_inv h290; clear h290
    refine b_callSl (rest := []) C dL_due_432 (ctL_none ec292) mf_L_none ms_L_none kl_L_11 rfl ⟨rfl, rfl⟩ ⟨Nat.le_of_ble_eq_true rfl, Nat.le_of_ble_eq_true rfl⟩ ⟨Nat.zero_le _, Nat.zero_le _⟩ rfl (Nat.le_of_ble_eq_true rfl) ?_
    obtain ⟨rfl, rfl⟩ := so2 h292
    exact b_lret C dL_due_435 hr
  have h291 := ineg h287 c289; clear h287
  refine b_aload_n C 0 dL_due_416 rfl rfl ?_
  refine b_iload_n C 2 dL_due_417 rfl rfl ?_
  refine b_iconst (v := (-1 : Int32)) C dL_due_418 (by decide) ?_
  refine b_iload C 4 dL_due_419 rfl ?_
  refine b_iconst (v := (0 : Int32)) C dL_due_421 (by decide) ?_
  obtain ⟨r296, σ295, ec294, h294⟩ := bd2_inv h291; clear h291
  refine b_callWl (rest := []) C (sameX ad ca) X dL_due_422 (ctX2_rest ec294) mf_X2_rest mi_X2_rest kl_L_65 0 rfl rfl rfl rfl ⟨rfl, rfl⟩ ⟨Nat.le_of_ble_eq_true rfl, Nat.le_of_ble_eq_true rfl⟩ ⟨Nat.zero_le _, Nat.zero_le _⟩ rfl (Nat.le_of_ble_eq_true rfl) ?_
  obtain ⟨r298, ec297, h297⟩ := bd0_inv h294; clear h294
  refine b_callSl (rest := [.long r296]) C dL_due_425 (ctL_none ec297) mf_L_none ms_L_none kl_L_11 rfl ⟨rfl, rfl⟩ ⟨Nat.le_of_ble_eq_true rfl, Nat.le_of_ble_eq_true rfl⟩ ⟨Nat.zero_le _, Nat.zero_le _⟩ rfl (Nat.le_of_ble_eq_true rfl) ?_
  refine b_lc_le (tgt := 436) C dL_due_428 dL_due_429 (by decide) (fun c299 => ?_) (fun c299 => ?_)
  · have h300 := ipos h297 c299; clear h297
    refine b_iload C 3 dL_due_436 rfl ?_
    refine b_iconst (v := (1 : Int32)) C dL_due_438 (by decide) ?_
    refine b_icmp_ne (tgt := 456) C dL_due_439 (by decide) (fun c302 => ?_) (fun c302 => ?_)
    · have h303 := ineg h300 c302; clear h300
      refine b_iload C 3 dL_due_456 rfl ?_
      refine b_iconst (v := (2 : Int32)) C dL_due_458 (by decide) ?_
      refine b_icmp_ne (tgt := 476) C dL_due_459 (by decide) (fun c305 => ?_) (fun c305 => ?_)
      · have h306 := ineg h303 c305; clear h303
        refine b_lload C 9 dL_due_476 rfl ?_
        refine b_iload C 10 dL_due_478 rfl ?_
        refine b_i2l C dL_due_480 ?_
        obtain ⟨r309, ec308, h308⟩ := bd0_inv h306; clear h306
        refine b_callSl (rest := []) C dL_due_481 (ctL_down ec308) mf_L_down ms_L_down kl_L_73 rfl ⟨rfl, rfl⟩ ⟨Nat.le_of_ble_eq_true rfl, Nat.le_of_ble_eq_true rfl⟩ ⟨Nat.zero_le _, Nat.zero_le _⟩ rfl (Nat.le_of_ble_eq_true rfl) ?_
        obtain ⟨rfl, rfl⟩ := so2 h308
        exact b_lret C dL_due_484 hr
      have h307 := ipos h303 c305; clear h303
      refine b_lload C 11 dL_due_462 rfl ?_
      refine b_lload C 12 dL_due_464 rfl ?_
      refine b_ladd C dL_due_466 ?_
      refine b_ldc2 (v := (2 : Int64)) C dL_due_467 kc_L_71 ?_
      obtain ⟨r311, ec310, h310⟩ := bd0_inv h307; clear h307
      refine b_callSl (rest := []) C dL_due_470 (ctL_down ec310) mf_L_down ms_L_down kl_L_73 rfl ⟨rfl, rfl⟩ ⟨Nat.le_of_ble_eq_true rfl, Nat.le_of_ble_eq_true rfl⟩ ⟨Nat.zero_le _, Nat.zero_le _⟩ rfl (Nat.le_of_ble_eq_true rfl) ?_
      refine b_goto (tgt := 484) C dL_due_473 (by decide) ?_
      obtain ⟨rfl, rfl⟩ := so2 h310
      exact b_lret C dL_due_484 hr
    have h304 := ipos h300 c302; clear h300
    refine b_lload C 6 dL_due_442 rfl ?_
    refine b_lload C 8 dL_due_444 rfl ?_
    refine b_ladd C dL_due_446 ?_
    refine b_ldc2 (v := (2 : Int64)) C dL_due_447 kc_L_71 ?_
    obtain ⟨r313, ec312, h312⟩ := bd0_inv h304; clear h304
    refine b_callSl (rest := []) C dL_due_450 (ctL_down ec312) mf_L_down ms_L_down kl_L_73 rfl ⟨rfl, rfl⟩ ⟨Nat.le_of_ble_eq_true rfl, Nat.le_of_ble_eq_true rfl⟩ ⟨Nat.zero_le _, Nat.zero_le _⟩ rfl (Nat.le_of_ble_eq_true rfl) ?_
    refine b_goto (tgt := 484) C dL_due_453 (by decide) ?_
    obtain ⟨rfl, rfl⟩ := so2 h312
    exact b_lret C dL_due_484 hr
  have h301 := ineg h297 c299; clear h297
  obtain ⟨r315, ec314, h314⟩ := bd0_inv h301; clear h301
  refine b_callSl (rest := []) C dL_due_432 (ctL_none ec314) mf_L_none ms_L_none kl_L_11 rfl ⟨rfl, rfl⟩ ⟨Nat.le_of_ble_eq_true rfl, Nat.le_of_ble_eq_true rfl⟩ ⟨Nat.zero_le _, Nat.zero_le _⟩ rfl (Nat.le_of_ble_eq_true rfl) ?_
  obtain ⟨rfl, rfl⟩ := so2 h314
  exact b_lret C dL_due_435 hr
theorem wL_due_249 {l : Launch} {p : Program} {e : Env} {s : State} {m : MethodId} {args : Array Value} {below : List Frame} {meth : Method} {c : Code} {D : va_G} {A : Nat → Prop} {ad : Nat → Nat} {ca : Nat → ClassId} {rf : Int64} {σf : St} (C : Cb p s m args meth c RL cL_due 29) (X : Cx s D A (wX ad ca) (tyX ca)) (hr : meth.sig.returnType = (some .long)) {N : Nat} : ∀ (σ : St) (y0 : Int32) (y1 : Int32) (y2 : Int32) (y3 : Int32) (y4 : Int32) (y5 : Int32) (y6 : Int64) (y7 : Int32) (y8 : Int64) (y9 : Int64) (y10 : Int32), fL_due_249 N σ y0 y1 y2 y3 y4 y5 y6 y7 y8 y9 y10 = some (rf, σf) → bW p l e rmL_due s m args below meth c 0 0 (MQ below (Qw D (wX ad ca) σf (some (.long rf)) A) args s 0 0 A) 29 (wd D A (wX ad ca) s σ) 249 [(0, .ref (ad 0)), (2, .int y0), (3, .int y1), (5, .int y2), (6, .int y3), (8, .int y4), (10, .int y5), (11, .long y6), (15, .int y7), (16, .long y8), (18, .long y9), (20, .int y10)] [] := by
  intro σ139 x128 x129 x130 x131 x132 x133 x134 x135 x136 x137 x138 h140
  refine b_iconst (v := (1 : Int32)) C dL_due_249 (by decide) ?_
  exact b_sub [0, 1, 2, 3, 4, 5, 6, 7, 8, 9, 10, 11] rfl (wL_due_250 C X hr _ _ _ _ _ _ _ _ _ _ _ _ _ h140)
theorem wL_due_32 {l : Launch} {p : Program} {e : Env} {s : State} {m : MethodId} {args : Array Value} {below : List Frame} {meth : Method} {c : Code} {D : va_G} {A : Nat → Prop} {ad : Nat → Nat} {ca : Nat → ClassId} {rf : Int64} {σf : St} (C : Cb p s m args meth c RL cL_due 29) (X : Cx s D A (wX ad ca) (tyX ca)) (hr : meth.sig.returnType = (some .long)) {N : Nat} : ∀ (σ : St) (y0 : Int32) (y1 : Int32) (y2 : Int32) (y3 : Int32) (y4 : Int32) (y5 : Int32) (y6 : Int32), fL_due_32 N σ y0 y1 y2 y3 y4 y5 y6 = some (rf, σf) → bW p l e rmL_due s m args below meth c 0 0 (MQ below (Qw D (wX ad ca) σf (some (.long rf)) A) args s 0 0 A) 29 (wd D A (wX ad ca) s σ) 32 [(0, .ref (ad 0)), (1, .int y0), (2, .int y1), (3, .int y2), (5, .int y3), (6, .int y4), (7, .int y5)] [.int y6] := by
  intro σ25 x18 x19 x20 x21 x22 x23 x24 h26
  refine b_istore (lv' := [(8, .int x24), (0, .ref (ad 0)), (1, .int x18), (2, .int x19), (3, .int x20), (5, .int x21), (6, .int x22), (7, .int x23)]) C dL_due_32 (by decide) rfl ?_
  refine b_iconst (v := (0 : Int32)) C dL_due_34 (by decide) ?_
  refine b_istore (lv' := [(9, .int (0 : Int32)), (8, .int x24), (0, .ref (ad 0)), (1, .int x18), (2, .int x19), (3, .int x20), (5, .int x21), (6, .int x22), (7, .int x23)]) C dL_due_35 (by decide) rfl ?_
  refine b_iconst (v := (0 : Int32)) C dL_due_37 (by decide) ?_
  refine b_istore (lv' := [(10, .int (0 : Int32)), (9, .int (0 : Int32)), (8, .int x24), (0, .ref (ad 0)), (1, .int x18), (2, .int x19), (3, .int x20), (5, .int x21), (6, .int x22), (7, .int x23)]) C dL_due_38 (by decide) rfl ?_
  refine b_aload_n C 3 dL_due_40 rfl rfl ?_
  refine b_iload_n C 6 dL_due_41 rfl rfl ?_
  refine b_iconst (v := (0 : Int32)) C dL_due_42 (by decide) ?_
  refine b_iload C 2 dL_due_43 rfl ?_
  refine b_iconst (v := (0 : Int32)) C dL_due_45 (by decide) ?_
  obtain ⟨r29, σ28, ec27, h27⟩ := bd2_inv h26; clear h26
  refine b_callWl (rest := []) C (sameX ad ca) X dL_due_46 (ctX2_rest ec27) mf_X2_rest mi_X2_rest kl_L_65 0 rfl rfl rfl rfl ⟨rfl, rfl⟩ ⟨Nat.le_of_ble_eq_true rfl, Nat.le_of_ble_eq_true rfl⟩ ⟨Nat.zero_le _, Nat.zero_le _⟩ rfl (Nat.le_of_ble_eq_true rfl) ?_
  refine b_aload_n C 3 dL_due_49 rfl rfl ?_
  refine b_iload_n C 6 dL_due_50 rfl rfl ?_
  refine b_iconst (v := (0 : Int32)) C dL_due_51 (by decide) ?_
  refine b_iload C 2 dL_due_52 rfl ?_
  refine b_iconst (v := (1 : Int32)) C dL_due_54 (by decide) ?_
  obtain ⟨r32, σ31, ec30, h30⟩ := bd2_inv h27; clear h27
  refine b_callWl (rest := [.long r29]) C (sameX ad ca) X dL_due_55 (ctX2_rest ec30) mf_X2_rest mi_X2_rest kl_L_65 0 rfl rfl rfl rfl ⟨rfl, rfl⟩ ⟨Nat.le_of_ble_eq_true rfl, Nat.le_of_ble_eq_true rfl⟩ ⟨Nat.zero_le _, Nat.zero_le _⟩ rfl (Nat.le_of_ble_eq_true rfl) ?_
  refine b_iload C 7 dL_due_58 rfl ?_
  refine b_i2l C dL_due_60 ?_
  obtain ⟨r34, ec33, h33⟩ := bd0_inv h30; clear h30
  refine b_callSl (rest := []) C dL_due_61 (ctL_units ec33) mf_L_units ms_L_units kl_L_54 rfl ⟨rfl, rfl⟩ ⟨Nat.le_of_ble_eq_true rfl, Nat.le_of_ble_eq_true rfl⟩ ⟨Nat.zero_le _, Nat.zero_le _⟩ rfl (Nat.le_of_ble_eq_true rfl) ?_
  refine b_lstore (lv' := [(11, .long r34), (10, .int (0 : Int32)), (9, .int (0 : Int32)), (8, .int x24), (0, .ref (ad 0)), (1, .int x18), (2, .int x19), (3, .int x20), (5, .int x21), (6, .int x22), (7, .int x23)]) C dL_due_64 (by decide) rfl ?_
  refine b_iconst (v := (0 : Int32)) C dL_due_66 (by decide) ?_
  refine b_istore (lv' := [(13, .int (0 : Int32)), (11, .long r34), (10, .int (0 : Int32)), (9, .int (0 : Int32)), (8, .int x24), (0, .ref (ad 0)), (1, .int x18), (2, .int x19), (3, .int x20), (5, .int x21), (6, .int x22), (7, .int x23)]) C dL_due_67 (by decide) rfl ?_
  refine b_sub [5, 6, 7, 8, 9, 10, 11, 4, 3, 2, 1, 0] rfl (wL_due_69 C X hr (fun σ110 x101 x102 x103 x104 x105 x106 x107 x108 x109 h111 => ?_) _ _ _ _ _ _ _ _ _ _ _ _ _ h33)
  refine b_aload_n C 0 dL_due_155 rfl rfl ?_
  refine b_iload_n C 2 dL_due_156 rfl rfl ?_
  refine b_iload C 5 dL_due_157 rfl ?_
  refine b_iload C 6 dL_due_159 rfl ?_
  refine b_iconst (v := (0 : Int32)) C dL_due_161 (by decide) ?_
  obtain ⟨r114, σ113, ec112, h112⟩ := bd2_inv h111; clear h111
  refine b_callWl (rest := []) C (sameX ad ca) X dL_due_162 (ctX2_value ec112) mf_X2_value mi_X2_value kl_L_61 0 rfl rfl rfl rfl ⟨rfl, rfl⟩ ⟨Nat.le_of_ble_eq_true rfl, Nat.le_of_ble_eq_true rfl⟩ ⟨Nat.zero_le _, Nat.zero_le _⟩ rfl (Nat.le_of_ble_eq_true rfl) ?_
  refine b_aload_n C 0 dL_due_165 rfl rfl ?_
  refine b_iload_n C 2 dL_due_166 rfl rfl ?_
  refine b_iload C 5 dL_due_167 rfl ?_
  refine b_iload C 6 dL_due_169 rfl ?_
  refine b_iconst (v := (1 : Int32)) C dL_due_171 (by decide) ?_
  obtain ⟨r117, σ116, ec115, h115⟩ := bd2_inv h112; clear h112
  refine b_callWl (rest := [.long r114]) C (sameX ad ca) X dL_due_172 (ctX2_value ec115) mf_X2_value mi_X2_value kl_L_61 0 rfl rfl rfl rfl ⟨rfl, rfl⟩ ⟨Nat.le_of_ble_eq_true rfl, Nat.le_of_ble_eq_true rfl⟩ ⟨Nat.zero_le _, Nat.zero_le _⟩ rfl (Nat.le_of_ble_eq_true rfl) ?_
  refine b_iload C 3 dL_due_175 rfl ?_
  refine b_i2l C dL_due_177 ?_
  obtain ⟨r119, ec118, h118⟩ := bd0_inv h115; clear h115
  refine b_callSl (rest := []) C dL_due_178 (ctL_units ec118) mf_L_units ms_L_units kl_L_54 rfl ⟨rfl, rfl⟩ ⟨Nat.le_of_ble_eq_true rfl, Nat.le_of_ble_eq_true rfl⟩ ⟨Nat.zero_le _, Nat.zero_le _⟩ rfl (Nat.le_of_ble_eq_true rfl) ?_
  refine b_lstore (lv' := [(13, .long r119), (0, .ref (ad 0)), (2, .int x101), (3, .int x102), (5, .int x103), (6, .int x104), (7, .int x105), (8, .int x106), (9, .int x107), (10, .int x108), (11, .long x109)]) C dL_due_181 (by decide) rfl ?_
  refine b_iload C 8 dL_due_183 rfl ?_
  refine b_iconst (v := (2 : Int32)) C dL_due_185 (by decide) ?_
  refine b_iload_n C 2 dL_due_186 rfl rfl ?_
  refine b_imul C dL_due_187 ?_
  refine b_icmp_gt (tgt := 216) C dL_due_188 (by decide) (fun c120 => ?_) (fun c120 => ?_)
  · have h121 := ipos h118 c120; clear h118
    refine b_iload C 8 dL_due_216 rfl ?_
    refine b_iconst (v := (2 : Int32)) C dL_due_218 (by decide) ?_
    refine b_iload_n C 2 dL_due_219 rfl rfl ?_
    refine b_imul C dL_due_220 ?_
    refine b_isub C dL_due_221 ?_
    obtain ⟨x123, ex123, h124⟩ := lt1_inv h121; clear h121
    refine b_nmI ex123 ?_
    refine b_istore (lv' := [(15, .int x123), (13, .long r119), (0, .ref (ad 0)), (2, .int x101), (3, .int x102), (5, .int x103), (6, .int x104), (7, .int x105), (8, .int x106), (9, .int x107), (10, .int x108), (11, .long x109)]) C dL_due_222 (by decide) rfl ?_
    refine b_lload C 11 dL_due_224 rfl ?_
    refine b_lstore (lv' := [(16, .long x109), (15, .int x123), (13, .long r119), (0, .ref (ad 0)), (2, .int x101), (3, .int x102), (5, .int x103), (6, .int x104), (7, .int x105), (8, .int x106), (9, .int x107), (10, .int x108), (11, .long x109)]) C dL_due_226 (by decide) rfl ?_
    refine b_lconst (v := (0 : Int64)) C dL_due_228 (by decide) ?_
    refine b_lstore (lv' := [(18, .long (0 : Int64)), (16, .long x109), (15, .int x123), (13, .long r119), (0, .ref (ad 0)), (2, .int x101), (3, .int x102), (5, .int x103), (6, .int x104), (7, .int x105), (8, .int x106), (9, .int x107), (10, .int x108), (11, .long x109)]) C dL_due_229 (by decide) rfl ?_
    refine b_iconst (v := (0 : Int32)) C dL_due_231 (by decide) ?_
    refine b_istore (lv' := [(20, .int (0 : Int32)), (18, .long (0 : Int64)), (16, .long x109), (15, .int x123), (13, .long r119), (0, .ref (ad 0)), (2, .int x101), (3, .int x102), (5, .int x103), (6, .int x104), (7, .int x105), (8, .int x106), (9, .int x107), (10, .int x108), (11, .long x109)]) C dL_due_232 (by decide) rfl ?_
    refine b_iload C 9 dL_due_234 rfl ?_
    refine b_iconst (v := (3 : Int32)) C dL_due_236 (by decide) ?_
    refine b_icmp_ne (tgt := 249) C dL_due_237 (by decide) (fun c125 => ?_) (fun c125 => ?_)
    · have h126 := ineg h124 c125; clear h124
      exact b_sub [5, 6, 7, 8, 9, 11, 13, 14, 3, 2, 1, 0] rfl (wL_due_249 C X hr _ _ _ _ _ _ _ _ _ _ _ _ h126)
    have h127 := ipos h124 c125; clear h124
    refine b_iload_n C 6 dL_due_240 rfl rfl ?_
    refine b_iconst (v := (1 : Int32)) C dL_due_241 (by decide) ?_
    refine b_icmp_le (tgt := 249) C dL_due_242 (by decide) (fun c316 => ?_) (fun c316 => ?_)
    · have h317 := ipos h127 c316; clear h127
      exact b_sub [5, 6, 7, 8, 9, 11, 13, 14, 3, 2, 1, 0] rfl (wL_due_249 C X hr _ _ _ _ _ _ _ _ _ _ _ _ h317)
    have h318 := ineg h127 c316; clear h127
    refine b_iload_n C 6 dL_due_245 rfl rfl ?_
    refine b_goto (tgt := 250) C dL_due_246 (by decide) ?_
    exact b_sub [5, 6, 7, 8, 9, 11, 13, 14, 3, 2, 1, 0] rfl (wL_due_250 C X hr _ _ _ _ _ _ _ _ _ _ _ _ _ h318)
  have h122 := ineg h118 c120; clear h118
  refine b_aload_n C 1 dL_due_191 rfl rfl ?_
  refine b_iload_n C 3 dL_due_192 rfl rfl ?_
  refine b_iconst (v := (0 : Int32)) C dL_due_193 (by decide) ?_
  refine b_iload C 7 dL_due_194 rfl ?_
  refine b_iconst (v := (1 : Int32)) C dL_due_196 (by decide) ?_
  obtain ⟨r321, σ320, ec319, h319⟩ := bd2_inv h122; clear h122
  refine b_callWl (rest := []) C (sameX ad ca) X dL_due_197 (ctX2_rest ec319) mf_X2_rest mi_X2_rest kl_L_65 0 rfl rfl rfl rfl ⟨rfl, rfl⟩ ⟨Nat.le_of_ble_eq_true rfl, Nat.le_of_ble_eq_true rfl⟩ ⟨Nat.zero_le _, Nat.zero_le _⟩ rfl (Nat.le_of_ble_eq_true rfl) ?_
  obtain ⟨r323, ec322, h322⟩ := bd0_inv h319; clear h319
  refine b_callSl (rest := [.long r321]) C dL_due_200 (ctL_none ec322) mf_L_none ms_L_none kl_L_11 rfl ⟨rfl, rfl⟩ ⟨Nat.le_of_ble_eq_true rfl, Nat.le_of_ble_eq_true rfl⟩ ⟨Nat.zero_le _, Nat.zero_le _⟩ rfl (Nat.le_of_ble_eq_true rfl) ?_
  refine b_lc_le (tgt := 213) C dL_due_203 dL_due_204 (by decide) (fun c324 => ?_) (fun c324 => ?_)
  · have h325 := ipos h322 c324; clear h322
    refine b_lload C 0 dL_due_213 rfl ?_
    obtain ⟨rfl, rfl⟩ := so2 h325
    exact b_lret C dL_due_215 hr
  have h326 := ineg h322 c324; clear h322
  obtain ⟨r328, ec327, h327⟩ := bd0_inv h326; clear h326
  refine b_callSl (rest := []) C dL_due_207 (ctL_none ec327) mf_L_none ms_L_none kl_L_11 rfl ⟨rfl, rfl⟩ ⟨Nat.le_of_ble_eq_true rfl, Nat.le_of_ble_eq_true rfl⟩ ⟨Nat.zero_le _, Nat.zero_le _⟩ rfl (Nat.le_of_ble_eq_true rfl) ?_
  refine b_goto (tgt := 215) C dL_due_210 (by decide) ?_
  obtain ⟨rfl, rfl⟩ := so2 h327
  exact b_lret C dL_due_215 hr
theorem ctL_due {l : Launch} {ad : Nat → Nat} {ca : Nat → ClassId} {N : Nat} {σ : St} {a1 : Int32} {a2 : Int32} {a3 : Int32} {a4 : Int32} {rf : Int64} {σf : St} (h : fL_due N σ a1 a2 a3 a4 = some (rf, σf)) : Cw l yL_due cL_due 29 (some .long) rmL_due [.ref (ad 0), .int a1, .int a2, .int a3, .int a4] (wX ad ca) (tyX ca) σ (some (.long rf)) σf := by
  refine Cw_of (by decide) (sameX ad ca) (Nat.le_of_ble_eq_true rfl) ?_
  intro p e s m args below meth c D A C X hr
  replace C : Cb p s m args meth c RL cL_due 29 := C
  have h5 := h; clear h
  refine b_sub (lv' := [(0, .ref (ad 0)), (1, .int a1), (2, .int a2), (3, .int a3), (4, .int a4)]) [0, 1, 2, 3, 4] rfl ?_
  refine b_aload_n C 0 dL_due_0 rfl rfl ?_
  refine b_iconst (v := (2 : Int32)) C dL_due_1 (by decide) ?_
  obtain ⟨r8, σ7, ec6, h6⟩ := bd2_inv h5; clear h5
  refine b_callWi (rest := []) C (sameX ad ca) X dL_due_2 (ctX2_count ec6) mf_X2_count mi_X2_count kl_L_40 0 rfl rfl rfl rfl ⟨rfl, rfl⟩ ⟨Nat.le_of_ble_eq_true rfl, Nat.le_of_ble_eq_true rfl⟩ ⟨Nat.zero_le _, Nat.zero_le _⟩ rfl (Nat.le_of_ble_eq_true rfl) ?_
  refine b_istore (lv' := [(5, .int r8), (0, .ref (ad 0)), (1, .int a1), (2, .int a2), (3, .int a3), (4, .int a4)]) C dL_due_5 (by decide) rfl ?_
  refine b_aload_n C 1 dL_due_7 rfl rfl ?_
  refine b_iconst (v := (5 : Int32)) C dL_due_8 (by decide) ?_
  obtain ⟨r11, σ10, ec9, h9⟩ := bd2_inv h6; clear h6
  refine b_callWi (rest := []) C (sameX ad ca) X dL_due_9 (ctX2_count ec9) mf_X2_count mi_X2_count kl_L_40 0 rfl rfl rfl rfl ⟨rfl, rfl⟩ ⟨Nat.le_of_ble_eq_true rfl, Nat.le_of_ble_eq_true rfl⟩ ⟨Nat.zero_le _, Nat.zero_le _⟩ rfl (Nat.le_of_ble_eq_true rfl) ?_
  refine b_istore (lv' := [(6, .int r11), (5, .int r8), (0, .ref (ad 0)), (1, .int a1), (2, .int a2), (3, .int a3), (4, .int a4)]) C dL_due_12 (by decide) rfl ?_
  refine b_aload_n C 2 dL_due_14 rfl rfl ?_
  refine b_iconst (v := (3 : Int32)) C dL_due_15 (by decide) ?_
  obtain ⟨r14, σ13, ec12, h12⟩ := bd2_inv h9; clear h9
  refine b_callWi (rest := []) C (sameX ad ca) X dL_due_16 (ctX2_count ec12) mf_X2_count mi_X2_count kl_L_40 0 rfl rfl rfl rfl ⟨rfl, rfl⟩ ⟨Nat.le_of_ble_eq_true rfl, Nat.le_of_ble_eq_true rfl⟩ ⟨Nat.zero_le _, Nat.zero_le _⟩ rfl (Nat.le_of_ble_eq_true rfl) ?_
  refine b_istore (lv' := [(7, .int r14), (6, .int r11), (5, .int r8), (0, .ref (ad 0)), (1, .int a1), (2, .int a2), (3, .int a3), (4, .int a4)]) C dL_due_19 (by decide) rfl ?_
  refine b_iload C 7 dL_due_21 rfl ?_
  refine b_iconst (v := (1 : Int32)) C dL_due_23 (by decide) ?_
  refine b_icmp_ne (tgt := 31) C dL_due_24 (by decide) (fun c15 => ?_) (fun c15 => ?_)
  · have h16 := ineg h12 c15; clear h12
    refine b_iconst (v := (0 : Int32)) C dL_due_31 (by decide) ?_
    exact b_sub [3, 4, 5, 6, 2, 1, 0] rfl (wL_due_32 C X hr _ _ _ _ _ _ _ _ h16)
  have h17 := ipos h12 c15; clear h12
  refine b_iconst (v := (1 : Int32)) C dL_due_27 (by decide) ?_
  refine b_goto (tgt := 32) C dL_due_28 (by decide) ?_
  exact b_sub [3, 4, 5, 6, 2, 1, 0] rfl (wL_due_32 C X hr _ _ _ _ _ _ _ _ h17)
def rmL_low : Room := { frames := 0, cells := 0, slots := 0, locals := 0 }
def fL_low (a1 : Int32) (a2 : Int32) : Option Int32 :=
  if a2 = (0 : Int32) then none else
  some ((a1 &&& (2147483647 : Int32)) - (a1 &&& (2147483647 : Int32)) / a2 * a2)
theorem ctL_low {l : Launch} {a1 : Int32} {a2 : Int32} {rf : Int32} (h : fL_low a1 a2 = some rf) : Cs l yL_low cL_low 2 (some .int) rmL_low [.int a1, .int a2] (some (.int rf)) := by
  refine Cs_of (by decide +kernel) (Nat.le_of_ble_eq_true rfl) ?_
  intro p e s m args below meth c C hr
  replace C : Cb p s m args meth c RL cL_low 2 := C
  have h3 := h; clear h
  refine b_sub (lv' := [(0, .int a1), (1, .int a2)]) [0, 1] rfl ?_
  refine b_iload_n C 0 dL_low_0 rfl rfl ?_
  refine b_ldc (v := (2147483647 : Int32)) C dL_low_1 kc_L_8 ?_
  refine b_iand C dL_low_3 ?_
  refine b_iload_n C 1 dL_low_4 rfl rfl ?_
  obtain ⟨g5, h4⟩ := gdn h3; clear h3
  refine b_irem C dL_low_5 g5 ?_
  obtain rfl := so1 h4
  exact s_iret C dL_low_6 hr
def rmL_width : Room := { frames := 5, cells := 0, slots := 0, locals := 111 }
def fL_width_115 (N : Nat) (q30 : St → Int32 → Int32 → Int32 → Int64 → Int32 → Int32 → Int32 → Option (Int64 × St)) (σ113 : St) (x101 : Int32) (x102 : Int32) (x103 : Int32) (x104 : Int64) (x105 : Int32) (x106 : Int32) (x107 : Int32) (x108 : Int64) (x109 : Int32) (x110 : Int32) (x111 : Int32) (x112 : Int64) : Option (Int64 × St) :=
  bd2 (fX2_value N σ113 x111 x110 x109 (1 : Int32)) fun r117 σ116 =>
  bd0 (fL_units x112 r117 (x103.toInt64)) fun r119 =>
  bd0 (fL_none) fun r121 =>
  if x108 ≤ r121 then (
  lt1 (x107 + (1 : Int32)) fun x125 =>
  q30 σ116 x101 x102 x103 x104 x105 x106 x125)
  else (
  bd0 (fL_none) fun r128 =>
  if r119 ≤ r128 then (
  lt1 (x107 + (1 : Int32)) fun x132 =>
  q30 σ116 x101 x102 x103 x104 x105 x106 x132)
  else (
  if (x108 - r119) ≤ x104 then (
  lt1 (x107 + (1 : Int32)) fun x137 =>
  q30 σ116 x101 x102 x103 x104 x105 x106 x137)
  else (
  lt1 (x108 - r119) fun x139 =>
  lt1 (x107 + (1 : Int32)) fun x141 =>
  q30 σ116 x101 x102 x103 x139 x105 x106 x141)))
def fL_width_96 (N : Nat) (q30 : St → Int32 → Int32 → Int32 → Int64 → Int32 → Int32 → Int32 → Option (Int64 × St)) (σ93 : St) (x82 : Int32) (x83 : Int32) (x84 : Int32) (x85 : Int64) (x86 : Int32) (x87 : Int32) (x88 : Int32) (x89 : Int64) (x90 : Int32) (x91 : Int32) (x92 : Int32) : Option (Int64 × St) :=
  bd2 (fX2_value N σ93 x92 x91 x90 (0 : Int32)) fun r97 σ96 =>
  if x86 = (1 : Int32) then (
  fL_width_115 N q30 σ96 x82 x83 x84 x85 x86 x87 x88 x89 (1 : Int32) x83 x88 r97)
  else (
  fL_width_115 N q30 σ96 x82 x83 x84 x85 x86 x87 x88 x89 (0 : Int32) x83 x88 r97)
def fL_width_70 (N : Nat) (q30 : St → Int32 → Int32 → Int32 → Int64 → Int32 → Int32 → Int32 → Option (Int64 × St)) (σ72 : St) (x61 : Int32) (x62 : Int32) (x63 : Int32) (x64 : Int64) (x65 : Int32) (x66 : Int32) (x67 : Int32) (x68 : Int32) (x69 : Int32) (x70 : Int32) (x71 : Int64) : Option (Int64 × St) :=
  bd2 (fX2_value N σ72 x70 x69 x68 (1 : Int32)) fun r76 σ75 =>
  bd0 (fL_units x71 r76 (x63.toInt64)) fun r78 =>
  if x65 = (1 : Int32) then (
  fL_width_96 N q30 σ75 x61 x62 x63 x64 x65 x66 x67 r78 (1 : Int32) x62 x67)
  else (
  fL_width_96 N q30 σ75 x61 x62 x63 x64 x65 x66 x67 r78 (0 : Int32) x62 x67)
def fL_width_51 (N : Nat) (q30 : St → Int32 → Int32 → Int32 → Int64 → Int32 → Int32 → Int32 → Option (Int64 × St)) (σ53 : St) (x43 : Int32) (x44 : Int32) (x45 : Int32) (x46 : Int64) (x47 : Int32) (x48 : Int32) (x49 : Int32) (x50 : Int32) (x51 : Int32) (x52 : Int32) : Option (Int64 × St) :=
  bd2 (fX2_value N σ53 x52 x51 x50 (0 : Int32)) fun r57 σ56 =>
  if x47 = (1 : Int32) then (
  fL_width_70 N q30 σ56 x43 x44 x45 x46 x47 x48 x49 (1 : Int32) x44 x48 r57)
  else (
  fL_width_70 N q30 σ56 x43 x44 x45 x46 x47 x48 x49 (0 : Int32) x44 x48 r57)
def fL_width_30b (N : Nat) (q173 : St → Int32 → Int32 → Int32 → Int64 → Int32 → Int32 → Option (Int64 × St)) (q30 : St → Int32 → Int32 → Int32 → Int64 → Int32 → Int32 → Int32 → Option (Int64 × St)) (σ35 : St) (x28 : Int32) (x29 : Int32) (x30 : Int32) (x31 : Int64) (x32 : Int32) (x33 : Int32) (x34 : Int32) : Option (Int64 × St) :=
  if x28 ≤ x34 then (
  q173 σ35 x28 x29 x30 x31 x32 x33)
  else (
  if x32 = (1 : Int32) then (
  fL_width_51 N q30 σ35 x28 x29 x30 x31 x32 x33 x34 (1 : Int32) x29 x33)
  else (
  fL_width_51 N q30 σ35 x28 x29 x30 x31 x32 x33 x34 (0 : Int32) x29 x33))
def fL_width_30 (N : Nat) (q173 : St → Int32 → Int32 → Int32 → Int64 → Int32 → Int32 → Option (Int64 × St)) : Nat → St → Int32 → Int32 → Int32 → Int64 → Int32 → Int32 → Int32 → Option (Int64 × St)
  | 0, _, _, _, _, _, _, _, _ => none
  | n + 1, σ, x28, x29, x30, x31, x32, x33, x34 => fL_width_30b N q173 (fL_width_30 N q173 n) σ x28 x29 x30 x31 x32 x33 x34
def fL_width_21b (N : Nat) (q179 : St → Int32 → Int32 → Int32 → Int64 → Int32 → Option (Int64 × St)) (q21 : St → Int32 → Int32 → Int32 → Int64 → Int32 → Int32 → Option (Int64 × St)) (σ23 : St) (x17 : Int32) (x18 : Int32) (x19 : Int32) (x20 : Int64) (x21 : Int32) (x22 : Int32) : Option (Int64 × St) :=
  if x17 ≤ x22 then (
  q179 σ23 x17 x18 x19 x20 x21)
  else (
  fL_width_30 N (fun σ149 x143 x144 x145 x146 x147 x148 =>
 lt1 (x148 + (1 : Int32)) fun x151 =>
  q21 σ149 x143 x144 x145 x146 x147 x151) N σ23 x17 x18 x19 x20 x21 x22 (0 : Int32))
def fL_width_21 (N : Nat) (q179 : St → Int32 → Int32 → Int32 → Int64 → Int32 → Option (Int64 × St)) : Nat → St → Int32 → Int32 → Int32 → Int64 → Int32 → Int32 → Option (Int64 × St)
  | 0, _, _, _, _, _, _, _ => none
  | n + 1, σ, x17, x18, x19, x20, x21, x22 => fL_width_21b N q179 (fL_width_21 N q179 n) σ x17 x18 x19 x20 x21 x22
def fL_width_12b (N : Nat) (q185 : St → Int64 → Option (Int64 × St)) (q12 : St → Int32 → Int32 → Int32 → Int64 → Int32 → Option (Int64 × St)) (σ12 : St) (x7 : Int32) (x8 : Int32) (x9 : Int32) (x10 : Int64) (x11 : Int32) : Option (Int64 × St) :=
  if (2 : Int32) ≤ x11 then (
  q185 σ12 x10)
  else (
  fL_width_21 N (fun σ158 x153 x154 x155 x156 x157 =>
 lt1 (x157 + (1 : Int32)) fun x160 =>
  q12 σ158 x153 x154 x155 x156 x160) N σ12 x7 x8 x9 x10 x11 (0 : Int32))
def fL_width_12 (N : Nat) (q185 : St → Int64 → Option (Int64 × St)) : Nat → St → Int32 → Int32 → Int32 → Int64 → Int32 → Option (Int64 × St)
  | 0, _, _, _, _, _, _ => none
  | n + 1, σ, x7, x8, x9, x10, x11 => fL_width_12b N q185 (fL_width_12 N q185 n) σ x7 x8 x9 x10 x11
def fL_width (N : Nat) (σ : St) (a1 : Int32) (a2 : Int32) : Option (Int64 × St) :=
  bd2 (fX2_count N σ (2 : Int32)) fun r6 σ5 =>
  fL_width_12 N (fun σ163 x162 =>
 some (x162, σ163)) N σ5 a1 a2 r6 (0 : Int64) (0 : Int32)
theorem wL_width_115 {l : Launch} {p : Program} {e : Env} {s : State} {m : MethodId} {args : Array Value} {below : List Frame} {meth : Method} {c : Code} {D : va_G} {A : Nat → Prop} {ad : Nat → Nat} {ca : Nat → ClassId} {rf : Int64} {σf : St} (C : Cb p s m args meth c RL cL_width 13) (X : Cx s D A (wX ad ca) (tyX ca)) (hr : meth.sig.returnType = (some .long)) {N : Nat} {q30 : St → Int32 → Int32 → Int32 → Int64 → Int32 → Int32 → Int32 → Option (Int64 × St)} (hq30 : ∀ (σ : St) (y0 : Int32) (y1 : Int32) (y2 : Int32) (y3 : Int64) (y4 : Int32) (y5 : Int32) (y6 : Int32), q30 σ y0 y1 y2 y3 y4 y5 y6 = some (rf, σf) → bW p l e rmL_width s m args below meth c 0 0 (MQ below (Qw D (wX ad ca) σf (some (.long rf)) A) args s 0 0 A) 13 (wd D A (wX ad ca) s σ) 30 [(0, .ref (ad 0)), (1, .int y0), (2, .int y1), (3, .int y2), (4, .long y3), (6, .int y4), (7, .int y5), (8, .int y6)] []) : ∀ (σ : St) (y0 : Int32) (y1 : Int32) (y2 : Int32) (y3 : Int64) (y4 : Int32) (y5 : Int32) (y6 : Int32) (y7 : Int64) (y8 : Int32) (y9 : Int32) (y10 : Int32) (y11 : Int64), fL_width_115 N q30 σ y0 y1 y2 y3 y4 y5 y6 y7 y8 y9 y10 y11 = some (rf, σf) → bW p l e rmL_width s m args below meth c 0 0 (MQ below (Qw D (wX ad ca) σf (some (.long rf)) A) args s 0 0 A) 13 (wd D A (wX ad ca) s σ) 115 [(0, .ref (ad 0)), (1, .int y0), (2, .int y1), (3, .int y2), (4, .long y3), (6, .int y4), (7, .int y5), (8, .int y6), (9, .long y7)] [.int y8, .int y9, .int y10, .ref (ad 0), .long y11] := by
  intro σ113 x101 x102 x103 x104 x105 x106 x107 x108 x109 x110 x111 x112 h114
  refine b_iconst (v := (1 : Int32)) C dL_width_115 (by decide) ?_
  obtain ⟨r117, σ116, ec115, h115⟩ := bd2_inv h114; clear h114
  refine b_callWl (rest := [.long x112]) C (sameX ad ca) X dL_width_116 (ctX2_value ec115) mf_X2_value mi_X2_value kl_L_61 0 rfl rfl rfl rfl ⟨rfl, rfl⟩ ⟨Nat.le_of_ble_eq_true rfl, Nat.le_of_ble_eq_true rfl⟩ ⟨Nat.zero_le _, Nat.zero_le _⟩ rfl (Nat.le_of_ble_eq_true rfl) ?_
  refine b_iload_n C 3 dL_width_119 rfl rfl ?_
  refine b_i2l C dL_width_120 ?_
  obtain ⟨r119, ec118, h118⟩ := bd0_inv h115; clear h115
  refine b_callSl (rest := []) C dL_width_121 (ctL_units ec118) mf_L_units ms_L_units kl_L_54 rfl ⟨rfl, rfl⟩ ⟨Nat.le_of_ble_eq_true rfl, Nat.le_of_ble_eq_true rfl⟩ ⟨Nat.zero_le _, Nat.zero_le _⟩ rfl (Nat.le_of_ble_eq_true rfl) ?_
  refine b_lstore (lv' := [(11, .long r119), (0, .ref (ad 0)), (1, .int x101), (2, .int x102), (3, .int x103), (4, .long x104), (6, .int x105), (7, .int x106), (8, .int x107), (9, .long x108)]) C dL_width_124 (by decide) rfl ?_
  refine b_lload C 9 dL_width_126 rfl ?_
  obtain ⟨r121, ec120, h120⟩ := bd0_inv h118; clear h118
  refine b_callSl (rest := [.long x108]) C dL_width_128 (ctL_none ec120) mf_L_none ms_L_none kl_L_11 rfl ⟨rfl, rfl⟩ ⟨Nat.le_of_ble_eq_true rfl, Nat.le_of_ble_eq_true rfl⟩ ⟨Nat.zero_le _, Nat.zero_le _⟩ rfl (Nat.le_of_ble_eq_true rfl) ?_
  refine b_lc_le (tgt := 163) C dL_width_131 dL_width_132 (by decide) (fun c122 => ?_) (fun c122 => ?_)
  · have h123 := ipos h120 c122; clear h120
    refine b_lload C 5 dL_width_163 rfl ?_
    refine b_lstore (lv' := [(4, .long x104), (11, .long r119), (0, .ref (ad 0)), (1, .int x101), (2, .int x102), (3, .int x103), (6, .int x105), (7, .int x106), (8, .int x107), (9, .long x108)]) C dL_width_165 (by decide) rfl ?_
    obtain ⟨x125, ex125, h126⟩ := lt1_inv h123; clear h123
    refine b_iinc (v := x125) (lv' := [(8, .int x125), (4, .long x104), (11, .long r119), (0, .ref (ad 0)), (1, .int x101), (2, .int x102), (3, .int x103), (6, .int x105), (7, .int x106), (9, .long x108)]) C 8 dL_width_167 rfl (by rw [ex125]; rfl) (by decide) rfl ?_
    refine b_goto (tgt := 30) C dL_width_170 (by decide) ?_
    exact b_sub [3, 4, 5, 6, 1, 7, 8, 0] rfl (hq30 _ _ _ _ _ _ _ _ h126)
  have h124 := ineg h120 c122; clear h120
  refine b_lload C 0 dL_width_135 rfl ?_
  obtain ⟨r128, ec127, h127⟩ := bd0_inv h124; clear h124
  refine b_callSl (rest := [.long r119]) C dL_width_137 (ctL_none ec127) mf_L_none ms_L_none kl_L_11 rfl ⟨rfl, rfl⟩ ⟨Nat.le_of_ble_eq_true rfl, Nat.le_of_ble_eq_true rfl⟩ ⟨Nat.zero_le _, Nat.zero_le _⟩ rfl (Nat.le_of_ble_eq_true rfl) ?_
  refine b_lc_le (tgt := 163) C dL_width_140 dL_width_141 (by decide) (fun c129 => ?_) (fun c129 => ?_)
  · have h130 := ipos h127 c129; clear h127
    refine b_lload C 5 dL_width_163 rfl ?_
    refine b_lstore (lv' := [(4, .long x104), (11, .long r119), (0, .ref (ad 0)), (1, .int x101), (2, .int x102), (3, .int x103), (6, .int x105), (7, .int x106), (8, .int x107), (9, .long x108)]) C dL_width_165 (by decide) rfl ?_
    obtain ⟨x132, ex132, h133⟩ := lt1_inv h130; clear h130
    refine b_iinc (v := x132) (lv' := [(8, .int x132), (4, .long x104), (11, .long r119), (0, .ref (ad 0)), (1, .int x101), (2, .int x102), (3, .int x103), (6, .int x105), (7, .int x106), (9, .long x108)]) C 8 dL_width_167 rfl (by rw [ex132]; rfl) (by decide) rfl ?_
    refine b_goto (tgt := 30) C dL_width_170 (by decide) ?_
    exact b_sub [3, 4, 5, 6, 1, 7, 8, 0] rfl (hq30 _ _ _ _ _ _ _ _ h133)
  have h131 := ineg h127 c129; clear h127
  refine b_lload C 9 dL_width_144 rfl ?_
  refine b_lload C 0 dL_width_146 rfl ?_
  refine b_lsub C dL_width_148 ?_
  refine b_lload C 5 dL_width_149 rfl ?_
  refine b_lc_le (tgt := 163) C dL_width_151 dL_width_152 (by decide) (fun c134 => ?_) (fun c134 => ?_)
  · have h135 := ipos h131 c134; clear h131
    refine b_lload C 5 dL_width_163 rfl ?_
    refine b_lstore (lv' := [(4, .long x104), (11, .long r119), (0, .ref (ad 0)), (1, .int x101), (2, .int x102), (3, .int x103), (6, .int x105), (7, .int x106), (8, .int x107), (9, .long x108)]) C dL_width_165 (by decide) rfl ?_
    obtain ⟨x137, ex137, h138⟩ := lt1_inv h135; clear h135
    refine b_iinc (v := x137) (lv' := [(8, .int x137), (4, .long x104), (11, .long r119), (0, .ref (ad 0)), (1, .int x101), (2, .int x102), (3, .int x103), (6, .int x105), (7, .int x106), (9, .long x108)]) C 8 dL_width_167 rfl (by rw [ex137]; rfl) (by decide) rfl ?_
    refine b_goto (tgt := 30) C dL_width_170 (by decide) ?_
    exact b_sub [3, 4, 5, 6, 1, 7, 8, 0] rfl (hq30 _ _ _ _ _ _ _ _ h138)
  have h136 := ineg h131 c134; clear h131
  refine b_lload C 9 dL_width_155 rfl ?_
  refine b_lload C 0 dL_width_157 rfl ?_
  refine b_lsub C dL_width_159 ?_
  refine b_goto (tgt := 165) C dL_width_160 (by decide) ?_
  obtain ⟨x139, ex139, h140⟩ := lt1_inv h136; clear h136
  refine b_nmJ ex139 ?_
  refine b_lstore (lv' := [(4, .long x139), (11, .long r119), (0, .ref (ad 0)), (1, .int x101), (2, .int x102), (3, .int x103), (6, .int x105), (7, .int x106), (8, .int x107), (9, .long x108)]) C dL_width_165 (by decide) rfl ?_
  obtain ⟨x141, ex141, h142⟩ := lt1_inv h140; clear h140
  refine b_iinc (v := x141) (lv' := [(8, .int x141), (4, .long x139), (11, .long r119), (0, .ref (ad 0)), (1, .int x101), (2, .int x102), (3, .int x103), (6, .int x105), (7, .int x106), (9, .long x108)]) C 8 dL_width_167 rfl (by rw [ex141]; rfl) (by decide) rfl ?_
  refine b_goto (tgt := 30) C dL_width_170 (by decide) ?_
  exact b_sub [3, 4, 5, 6, 1, 7, 8, 0] rfl (hq30 _ _ _ _ _ _ _ _ h142)
theorem wL_width_96 {l : Launch} {p : Program} {e : Env} {s : State} {m : MethodId} {args : Array Value} {below : List Frame} {meth : Method} {c : Code} {D : va_G} {A : Nat → Prop} {ad : Nat → Nat} {ca : Nat → ClassId} {rf : Int64} {σf : St} (C : Cb p s m args meth c RL cL_width 13) (X : Cx s D A (wX ad ca) (tyX ca)) (hr : meth.sig.returnType = (some .long)) {N : Nat} {q30 : St → Int32 → Int32 → Int32 → Int64 → Int32 → Int32 → Int32 → Option (Int64 × St)} (hq30 : ∀ (σ : St) (y0 : Int32) (y1 : Int32) (y2 : Int32) (y3 : Int64) (y4 : Int32) (y5 : Int32) (y6 : Int32), q30 σ y0 y1 y2 y3 y4 y5 y6 = some (rf, σf) → bW p l e rmL_width s m args below meth c 0 0 (MQ below (Qw D (wX ad ca) σf (some (.long rf)) A) args s 0 0 A) 13 (wd D A (wX ad ca) s σ) 30 [(0, .ref (ad 0)), (1, .int y0), (2, .int y1), (3, .int y2), (4, .long y3), (6, .int y4), (7, .int y5), (8, .int y6)] []) : ∀ (σ : St) (y0 : Int32) (y1 : Int32) (y2 : Int32) (y3 : Int64) (y4 : Int32) (y5 : Int32) (y6 : Int32) (y7 : Int64) (y8 : Int32) (y9 : Int32) (y10 : Int32), fL_width_96 N q30 σ y0 y1 y2 y3 y4 y5 y6 y7 y8 y9 y10 = some (rf, σf) → bW p l e rmL_width s m args below meth c 0 0 (MQ below (Qw D (wX ad ca) σf (some (.long rf)) A) args s 0 0 A) 13 (wd D A (wX ad ca) s σ) 96 [(0, .ref (ad 0)), (1, .int y0), (2, .int y1), (3, .int y2), (4, .long y3), (6, .int y4), (7, .int y5), (8, .int y6), (9, .long y7)] [.int y8, .int y9, .int y10, .ref (ad 0)] := by
  intro σ93 x82 x83 x84 x85 x86 x87 x88 x89 x90 x91 x92 h94
  refine b_iconst (v := (0 : Int32)) C dL_width_96 (by decide) ?_
  obtain ⟨r97, σ96, ec95, h95⟩ := bd2_inv h94; clear h94
  refine b_callWl (rest := []) C (sameX ad ca) X dL_width_97 (ctX2_value ec95) mf_X2_value mi_X2_value kl_L_61 0 rfl rfl rfl rfl ⟨rfl, rfl⟩ ⟨Nat.le_of_ble_eq_true rfl, Nat.le_of_ble_eq_true rfl⟩ ⟨Nat.zero_le _, Nat.zero_le _⟩ rfl (Nat.le_of_ble_eq_true rfl) ?_
  refine b_aload_n C 0 dL_width_100 rfl rfl ?_
  refine b_iload C 7 dL_width_101 rfl ?_
  refine b_iload_n C 2 dL_width_103 rfl rfl ?_
  refine b_iload C 5 dL_width_104 rfl ?_
  refine b_iconst (v := (1 : Int32)) C dL_width_106 (by decide) ?_
  refine b_icmp_ne (tgt := 114) C dL_width_107 (by decide) (fun c98 => ?_) (fun c98 => ?_)
  · have h99 := ineg h95 c98; clear h95
    refine b_iconst (v := (0 : Int32)) C dL_width_114 (by decide) ?_
    exact b_sub [0, 1, 2, 3, 4, 5, 6, 7, 8] rfl (wL_width_115 C X hr hq30 _ _ _ _ _ _ _ _ _ _ _ _ _ h99)
  have h100 := ipos h95 c98; clear h95
  refine b_iconst (v := (1 : Int32)) C dL_width_110 (by decide) ?_
  refine b_goto (tgt := 115) C dL_width_111 (by decide) ?_
  exact b_sub [0, 1, 2, 3, 4, 5, 6, 7, 8] rfl (wL_width_115 C X hr hq30 _ _ _ _ _ _ _ _ _ _ _ _ _ h100)
theorem wL_width_70 {l : Launch} {p : Program} {e : Env} {s : State} {m : MethodId} {args : Array Value} {below : List Frame} {meth : Method} {c : Code} {D : va_G} {A : Nat → Prop} {ad : Nat → Nat} {ca : Nat → ClassId} {rf : Int64} {σf : St} (C : Cb p s m args meth c RL cL_width 13) (X : Cx s D A (wX ad ca) (tyX ca)) (hr : meth.sig.returnType = (some .long)) {N : Nat} {q30 : St → Int32 → Int32 → Int32 → Int64 → Int32 → Int32 → Int32 → Option (Int64 × St)} (hq30 : ∀ (σ : St) (y0 : Int32) (y1 : Int32) (y2 : Int32) (y3 : Int64) (y4 : Int32) (y5 : Int32) (y6 : Int32), q30 σ y0 y1 y2 y3 y4 y5 y6 = some (rf, σf) → bW p l e rmL_width s m args below meth c 0 0 (MQ below (Qw D (wX ad ca) σf (some (.long rf)) A) args s 0 0 A) 13 (wd D A (wX ad ca) s σ) 30 [(0, .ref (ad 0)), (1, .int y0), (2, .int y1), (3, .int y2), (4, .long y3), (6, .int y4), (7, .int y5), (8, .int y6)] []) : ∀ (σ : St) (y0 : Int32) (y1 : Int32) (y2 : Int32) (y3 : Int64) (y4 : Int32) (y5 : Int32) (y6 : Int32) (y7 : Int32) (y8 : Int32) (y9 : Int32) (y10 : Int64), fL_width_70 N q30 σ y0 y1 y2 y3 y4 y5 y6 y7 y8 y9 y10 = some (rf, σf) → bW p l e rmL_width s m args below meth c 0 0 (MQ below (Qw D (wX ad ca) σf (some (.long rf)) A) args s 0 0 A) 13 (wd D A (wX ad ca) s σ) 70 [(0, .ref (ad 0)), (1, .int y0), (2, .int y1), (3, .int y2), (4, .long y3), (6, .int y4), (7, .int y5), (8, .int y6)] [.int y7, .int y8, .int y9, .ref (ad 0), .long y10] := by
  intro σ72 x61 x62 x63 x64 x65 x66 x67 x68 x69 x70 x71 h73
  refine b_iconst (v := (1 : Int32)) C dL_width_70 (by decide) ?_
  obtain ⟨r76, σ75, ec74, h74⟩ := bd2_inv h73; clear h73
  refine b_callWl (rest := [.long x71]) C (sameX ad ca) X dL_width_71 (ctX2_value ec74) mf_X2_value mi_X2_value kl_L_61 0 rfl rfl rfl rfl ⟨rfl, rfl⟩ ⟨Nat.le_of_ble_eq_true rfl, Nat.le_of_ble_eq_true rfl⟩ ⟨Nat.zero_le _, Nat.zero_le _⟩ rfl (Nat.le_of_ble_eq_true rfl) ?_
  refine b_iload_n C 3 dL_width_74 rfl rfl ?_
  refine b_i2l C dL_width_75 ?_
  obtain ⟨r78, ec77, h77⟩ := bd0_inv h74; clear h74
  refine b_callSl (rest := []) C dL_width_76 (ctL_units ec77) mf_L_units ms_L_units kl_L_54 rfl ⟨rfl, rfl⟩ ⟨Nat.le_of_ble_eq_true rfl, Nat.le_of_ble_eq_true rfl⟩ ⟨Nat.zero_le _, Nat.zero_le _⟩ rfl (Nat.le_of_ble_eq_true rfl) ?_
  refine b_lstore (lv' := [(9, .long r78), (0, .ref (ad 0)), (1, .int x61), (2, .int x62), (3, .int x63), (4, .long x64), (6, .int x65), (7, .int x66), (8, .int x67)]) C dL_width_79 (by decide) rfl ?_
  refine b_aload_n C 1 dL_width_81 rfl rfl ?_
  refine b_iload C 8 dL_width_82 rfl ?_
  refine b_iload_n C 3 dL_width_84 rfl rfl ?_
  refine b_iload C 6 dL_width_85 rfl ?_
  refine b_iconst (v := (1 : Int32)) C dL_width_87 (by decide) ?_
  refine b_icmp_ne (tgt := 95) C dL_width_88 (by decide) (fun c79 => ?_) (fun c79 => ?_)
  · have h80 := ineg h77 c79; clear h77
    refine b_iconst (v := (0 : Int32)) C dL_width_95 (by decide) ?_
    exact b_sub [1, 2, 3, 4, 5, 6, 7, 8, 0] rfl (wL_width_96 C X hr hq30 _ _ _ _ _ _ _ _ _ _ _ _ h80)
  have h81 := ipos h77 c79; clear h77
  refine b_iconst (v := (1 : Int32)) C dL_width_91 (by decide) ?_
  refine b_goto (tgt := 96) C dL_width_92 (by decide) ?_
  exact b_sub [1, 2, 3, 4, 5, 6, 7, 8, 0] rfl (wL_width_96 C X hr hq30 _ _ _ _ _ _ _ _ _ _ _ _ h81)
theorem wL_width_51 {l : Launch} {p : Program} {e : Env} {s : State} {m : MethodId} {args : Array Value} {below : List Frame} {meth : Method} {c : Code} {D : va_G} {A : Nat → Prop} {ad : Nat → Nat} {ca : Nat → ClassId} {rf : Int64} {σf : St} (C : Cb p s m args meth c RL cL_width 13) (X : Cx s D A (wX ad ca) (tyX ca)) (hr : meth.sig.returnType = (some .long)) {N : Nat} {q30 : St → Int32 → Int32 → Int32 → Int64 → Int32 → Int32 → Int32 → Option (Int64 × St)} (hq30 : ∀ (σ : St) (y0 : Int32) (y1 : Int32) (y2 : Int32) (y3 : Int64) (y4 : Int32) (y5 : Int32) (y6 : Int32), q30 σ y0 y1 y2 y3 y4 y5 y6 = some (rf, σf) → bW p l e rmL_width s m args below meth c 0 0 (MQ below (Qw D (wX ad ca) σf (some (.long rf)) A) args s 0 0 A) 13 (wd D A (wX ad ca) s σ) 30 [(0, .ref (ad 0)), (1, .int y0), (2, .int y1), (3, .int y2), (4, .long y3), (6, .int y4), (7, .int y5), (8, .int y6)] []) : ∀ (σ : St) (y0 : Int32) (y1 : Int32) (y2 : Int32) (y3 : Int64) (y4 : Int32) (y5 : Int32) (y6 : Int32) (y7 : Int32) (y8 : Int32) (y9 : Int32), fL_width_51 N q30 σ y0 y1 y2 y3 y4 y5 y6 y7 y8 y9 = some (rf, σf) → bW p l e rmL_width s m args below meth c 0 0 (MQ below (Qw D (wX ad ca) σf (some (.long rf)) A) args s 0 0 A) 13 (wd D A (wX ad ca) s σ) 51 [(0, .ref (ad 0)), (1, .int y0), (2, .int y1), (3, .int y2), (4, .long y3), (6, .int y4), (7, .int y5), (8, .int y6)] [.int y7, .int y8, .int y9, .ref (ad 0)] := by
  intro σ53 x43 x44 x45 x46 x47 x48 x49 x50 x51 x52 h54
  refine b_iconst (v := (0 : Int32)) C dL_width_51 (by decide) ?_
  obtain ⟨r57, σ56, ec55, h55⟩ := bd2_inv h54; clear h54
  refine b_callWl (rest := []) C (sameX ad ca) X dL_width_52 (ctX2_value ec55) mf_X2_value mi_X2_value kl_L_61 0 rfl rfl rfl rfl ⟨rfl, rfl⟩ ⟨Nat.le_of_ble_eq_true rfl, Nat.le_of_ble_eq_true rfl⟩ ⟨Nat.zero_le _, Nat.zero_le _⟩ rfl (Nat.le_of_ble_eq_true rfl) ?_
  refine b_aload_n C 0 dL_width_55 rfl rfl ?_
  refine b_iload C 6 dL_width_56 rfl ?_
  refine b_iload_n C 2 dL_width_58 rfl rfl ?_
  refine b_iload C 5 dL_width_59 rfl ?_
  refine b_iconst (v := (1 : Int32)) C dL_width_61 (by decide) ?_
  refine b_icmp_ne (tgt := 69) C dL_width_62 (by decide) (fun c58 => ?_) (fun c58 => ?_)
  · have h59 := ineg h55 c58; clear h55
    refine b_iconst (v := (0 : Int32)) C dL_width_69 (by decide) ?_
    exact b_sub [0, 1, 2, 3, 4, 5, 6, 7] rfl (wL_width_70 C X hr hq30 _ _ _ _ _ _ _ _ _ _ _ _ h59)
  have h60 := ipos h55 c58; clear h55
  refine b_iconst (v := (1 : Int32)) C dL_width_65 (by decide) ?_
  refine b_goto (tgt := 70) C dL_width_66 (by decide) ?_
  exact b_sub [0, 1, 2, 3, 4, 5, 6, 7] rfl (wL_width_70 C X hr hq30 _ _ _ _ _ _ _ _ _ _ _ _ h60)
theorem wL_width_30 {l : Launch} {p : Program} {e : Env} {s : State} {m : MethodId} {args : Array Value} {below : List Frame} {meth : Method} {c : Code} {D : va_G} {A : Nat → Prop} {ad : Nat → Nat} {ca : Nat → ClassId} {rf : Int64} {σf : St} (C : Cb p s m args meth c RL cL_width 13) (X : Cx s D A (wX ad ca) (tyX ca)) (hr : meth.sig.returnType = (some .long)) {N : Nat} {q173 : St → Int32 → Int32 → Int32 → Int64 → Int32 → Int32 → Option (Int64 × St)} (hq173 : ∀ (σ : St) (y0 : Int32) (y1 : Int32) (y2 : Int32) (y3 : Int64) (y4 : Int32) (y5 : Int32), q173 σ y0 y1 y2 y3 y4 y5 = some (rf, σf) → bW p l e rmL_width s m args below meth c 0 0 (MQ below (Qw D (wX ad ca) σf (some (.long rf)) A) args s 0 0 A) 13 (wd D A (wX ad ca) s σ) 173 [(0, .ref (ad 0)), (1, .int y0), (2, .int y1), (3, .int y2), (4, .long y3), (6, .int y4), (7, .int y5)] []) : ∀ n : Nat, ∀ (σ : St) (y0 : Int32) (y1 : Int32) (y2 : Int32) (y3 : Int64) (y4 : Int32) (y5 : Int32) (y6 : Int32), fL_width_30 N q173 n σ y0 y1 y2 y3 y4 y5 y6 = some (rf, σf) → bW p l e rmL_width s m args below meth c 0 0 (MQ below (Qw D (wX ad ca) σf (some (.long rf)) A) args s 0 0 A) 13 (wd D A (wX ad ca) s σ) 30 [(0, .ref (ad 0)), (1, .int y0), (2, .int y1), (3, .int y2), (4, .long y3), (6, .int y4), (7, .int y5), (8, .int y6)] [] := by
  intro n
  induction n with
  | zero => intro σ35 x28 x29 x30 x31 x32 x33 x34 h36; exact nn h36
  | succ n hq30 =>
    intro σ35 x28 x29 x30 x31 x32 x33 x34 h36
    replace h36 : fL_width_30b N q173 (fL_width_30 N q173 n) σ35 x28 x29 x30 x31 x32 x33 x34 = some (rf, σf) := h36
    refine b_iload C 7 dL_width_30 rfl ?_
    refine b_iload_n C 1 dL_width_32 rfl rfl ?_
    refine b_icmp_ge (tgt := 173) C dL_width_33 (by decide) (fun c37 => ?_) (fun c37 => ?_)
    · have h38 := ipos h36 c37; clear h36
      exact b_sub [0, 1, 2, 3, 4, 5, 6] rfl (hq173 _ _ _ _ _ _ _ h38)
    have h39 := ineg h36 c37; clear h36
    refine b_aload_n C 0 dL_width_36 rfl rfl ?_
    refine b_iload C 6 dL_width_37 rfl ?_
    refine b_iload_n C 2 dL_width_39 rfl rfl ?_
    refine b_iload C 5 dL_width_40 rfl ?_
    refine b_iconst (v := (1 : Int32)) C dL_width_42 (by decide) ?_
    refine b_icmp_ne (tgt := 50) C dL_width_43 (by decide) (fun c40 => ?_) (fun c40 => ?_)
    · have h41 := ineg h39 c40; clear h39
      refine b_iconst (v := (0 : Int32)) C dL_width_50 (by decide) ?_
      exact b_sub [0, 1, 2, 3, 4, 5, 6, 7] rfl (wL_width_51 C X hr hq30 _ _ _ _ _ _ _ _ _ _ _ h41)
    have h42 := ipos h39 c40; clear h39
    refine b_iconst (v := (1 : Int32)) C dL_width_46 (by decide) ?_
    refine b_goto (tgt := 51) C dL_width_47 (by decide) ?_
    exact b_sub [0, 1, 2, 3, 4, 5, 6, 7] rfl (wL_width_51 C X hr hq30 _ _ _ _ _ _ _ _ _ _ _ h42)
theorem wL_width_21 {l : Launch} {p : Program} {e : Env} {s : State} {m : MethodId} {args : Array Value} {below : List Frame} {meth : Method} {c : Code} {D : va_G} {A : Nat → Prop} {ad : Nat → Nat} {ca : Nat → ClassId} {rf : Int64} {σf : St} (C : Cb p s m args meth c RL cL_width 13) (X : Cx s D A (wX ad ca) (tyX ca)) (hr : meth.sig.returnType = (some .long)) {N : Nat} {q179 : St → Int32 → Int32 → Int32 → Int64 → Int32 → Option (Int64 × St)} (hq179 : ∀ (σ : St) (y0 : Int32) (y1 : Int32) (y2 : Int32) (y3 : Int64) (y4 : Int32), q179 σ y0 y1 y2 y3 y4 = some (rf, σf) → bW p l e rmL_width s m args below meth c 0 0 (MQ below (Qw D (wX ad ca) σf (some (.long rf)) A) args s 0 0 A) 13 (wd D A (wX ad ca) s σ) 179 [(0, .ref (ad 0)), (1, .int y0), (2, .int y1), (3, .int y2), (4, .long y3), (6, .int y4)] []) : ∀ n : Nat, ∀ (σ : St) (y0 : Int32) (y1 : Int32) (y2 : Int32) (y3 : Int64) (y4 : Int32) (y5 : Int32), fL_width_21 N q179 n σ y0 y1 y2 y3 y4 y5 = some (rf, σf) → bW p l e rmL_width s m args below meth c 0 0 (MQ below (Qw D (wX ad ca) σf (some (.long rf)) A) args s 0 0 A) 13 (wd D A (wX ad ca) s σ) 21 [(0, .ref (ad 0)), (1, .int y0), (2, .int y1), (3, .int y2), (4, .long y3), (6, .int y4), (7, .int y5)] [] := by
  intro n
  induction n with
  | zero => intro σ23 x17 x18 x19 x20 x21 x22 h24; exact nn h24
  | succ n hq21 =>
    intro σ23 x17 x18 x19 x20 x21 x22 h24
    replace h24 : fL_width_21b N q179 (fL_width_21 N q179 n) σ23 x17 x18 x19 x20 x21 x22 = some (rf, σf) := h24
    refine b_iload C 6 dL_width_21 rfl ?_
    refine b_iload_n C 1 dL_width_23 rfl rfl ?_
    refine b_icmp_ge (tgt := 179) C dL_width_24 (by decide) (fun c25 => ?_) (fun c25 => ?_)
    · have h26 := ipos h24 c25; clear h24
      exact b_sub [0, 1, 2, 3, 4, 5] rfl (hq179 _ _ _ _ _ _ h26)
    have h27 := ineg h24 c25; clear h24
    refine b_iconst (v := (0 : Int32)) C dL_width_27 (by decide) ?_
    refine b_istore (lv' := [(8, .int (0 : Int32)), (0, .ref (ad 0)), (1, .int x17), (2, .int x18), (3, .int x19), (4, .long x20), (6, .int x21), (7, .int x22)]) C dL_width_28 (by decide) rfl ?_
    refine b_sub [1, 2, 3, 4, 5, 6, 7, 0] rfl (wL_width_30 C X hr (fun σ149 x143 x144 x145 x146 x147 x148 h150 => ?_) _ _ _ _ _ _ _ _ _ h27)
    obtain ⟨x151, ex151, h152⟩ := lt1_inv h150; clear h150
    refine b_iinc (v := x151) (lv' := [(7, .int x151), (0, .ref (ad 0)), (1, .int x143), (2, .int x144), (3, .int x145), (4, .long x146), (6, .int x147)]) C 6 dL_width_173 rfl (by rw [ex151]; rfl) (by decide) rfl ?_
    refine b_goto (tgt := 21) C dL_width_176 (by decide) ?_
    exact b_sub [1, 2, 3, 4, 5, 6, 0] rfl (hq21 _ _ _ _ _ _ _ h152)
theorem wL_width_12 {l : Launch} {p : Program} {e : Env} {s : State} {m : MethodId} {args : Array Value} {below : List Frame} {meth : Method} {c : Code} {D : va_G} {A : Nat → Prop} {ad : Nat → Nat} {ca : Nat → ClassId} {rf : Int64} {σf : St} (C : Cb p s m args meth c RL cL_width 13) (X : Cx s D A (wX ad ca) (tyX ca)) (hr : meth.sig.returnType = (some .long)) {N : Nat} {q185 : St → Int64 → Option (Int64 × St)} (hq185 : ∀ (σ : St) (y0 : Int64), q185 σ y0 = some (rf, σf) → bW p l e rmL_width s m args below meth c 0 0 (MQ below (Qw D (wX ad ca) σf (some (.long rf)) A) args s 0 0 A) 13 (wd D A (wX ad ca) s σ) 185 [(4, .long y0)] []) : ∀ n : Nat, ∀ (σ : St) (y0 : Int32) (y1 : Int32) (y2 : Int32) (y3 : Int64) (y4 : Int32), fL_width_12 N q185 n σ y0 y1 y2 y3 y4 = some (rf, σf) → bW p l e rmL_width s m args below meth c 0 0 (MQ below (Qw D (wX ad ca) σf (some (.long rf)) A) args s 0 0 A) 13 (wd D A (wX ad ca) s σ) 12 [(0, .ref (ad 0)), (1, .int y0), (2, .int y1), (3, .int y2), (4, .long y3), (6, .int y4)] [] := by
  intro n
  induction n with
  | zero => intro σ12 x7 x8 x9 x10 x11 h13; exact nn h13
  | succ n hq12 =>
    intro σ12 x7 x8 x9 x10 x11 h13
    replace h13 : fL_width_12b N q185 (fL_width_12 N q185 n) σ12 x7 x8 x9 x10 x11 = some (rf, σf) := h13
    refine b_iload C 5 dL_width_12 rfl ?_
    refine b_iconst (v := (2 : Int32)) C dL_width_14 (by decide) ?_
    refine b_icmp_ge (tgt := 185) C dL_width_15 (by decide) (fun c14 => ?_) (fun c14 => ?_)
    · have h15 := ipos h13 c14; clear h13
      exact b_sub [4] rfl (hq185 _ _ h15)
    have h16 := ineg h13 c14; clear h13
    refine b_iconst (v := (0 : Int32)) C dL_width_18 (by decide) ?_
    refine b_istore (lv' := [(7, .int (0 : Int32)), (0, .ref (ad 0)), (1, .int x7), (2, .int x8), (3, .int x9), (4, .long x10), (6, .int x11)]) C dL_width_19 (by decide) rfl ?_
    refine b_sub [1, 2, 3, 4, 5, 6, 0] rfl (wL_width_21 C X hr (fun σ158 x153 x154 x155 x156 x157 h159 => ?_) _ _ _ _ _ _ _ _ h16)
    obtain ⟨x160, ex160, h161⟩ := lt1_inv h159; clear h159
    refine b_iinc (v := x160) (lv' := [(6, .int x160), (0, .ref (ad 0)), (1, .int x153), (2, .int x154), (3, .int x155), (4, .long x156)]) C 5 dL_width_179 rfl (by rw [ex160]; rfl) (by decide) rfl ?_
    refine b_goto (tgt := 12) C dL_width_182 (by decide) ?_
    exact b_sub [1, 2, 3, 4, 5, 0] rfl (hq12 _ _ _ _ _ _ h161)
theorem ctL_width {l : Launch} {ad : Nat → Nat} {ca : Nat → ClassId} {N : Nat} {σ : St} {a1 : Int32} {a2 : Int32} {rf : Int64} {σf : St} (h : fL_width N σ a1 a2 = some (rf, σf)) : Cw l yL_width cL_width 13 (some .long) rmL_width [.ref (ad 0), .int a1, .int a2] (wX ad ca) (tyX ca) σ (some (.long rf)) σf := by
  refine Cw_of (by decide) (sameX ad ca) (Nat.le_of_ble_eq_true rfl) ?_
  intro p e s m args below meth c D A C X hr
  replace C : Cb p s m args meth c RL cL_width 13 := C
  have h3 := h; clear h
  refine b_sub (lv' := [(0, .ref (ad 0)), (1, .int a1), (2, .int a2)]) [0, 1, 2] rfl ?_
  refine b_aload_n C 0 dL_width_0 rfl rfl ?_
  refine b_iconst (v := (2 : Int32)) C dL_width_1 (by decide) ?_
  obtain ⟨r6, σ5, ec4, h4⟩ := bd2_inv h3; clear h3
  refine b_callWi (rest := []) C (sameX ad ca) X dL_width_2 (ctX2_count ec4) mf_X2_count mi_X2_count kl_L_40 0 rfl rfl rfl rfl ⟨rfl, rfl⟩ ⟨Nat.le_of_ble_eq_true rfl, Nat.le_of_ble_eq_true rfl⟩ ⟨Nat.zero_le _, Nat.zero_le _⟩ rfl (Nat.le_of_ble_eq_true rfl) ?_
  refine b_istore_n (lv' := [(3, .int r6), (0, .ref (ad 0)), (1, .int a1), (2, .int a2)]) C dL_width_5 rfl (by decide) rfl ?_
  refine b_lconst (v := (0 : Int64)) C dL_width_6 (by decide) ?_
  refine b_lstore (lv' := [(4, .long (0 : Int64)), (3, .int r6), (0, .ref (ad 0)), (1, .int a1), (2, .int a2)]) C dL_width_7 (by decide) rfl ?_
  refine b_iconst (v := (0 : Int32)) C dL_width_9 (by decide) ?_
  refine b_istore (lv' := [(6, .int (0 : Int32)), (4, .long (0 : Int64)), (3, .int r6), (0, .ref (ad 0)), (1, .int a1), (2, .int a2)]) C dL_width_10 (by decide) rfl ?_
  refine b_sub [3, 4, 5, 2, 1, 0] rfl (wL_width_12 C X hr (fun σ163 x162 h164 => ?_) _ _ _ _ _ _ _ h4)
  refine b_lload C 0 dL_width_185 rfl ?_
  obtain ⟨rfl, rfl⟩ := so2 h164
  exact b_lret C dL_width_187 hr
