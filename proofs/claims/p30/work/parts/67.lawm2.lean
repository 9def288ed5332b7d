def rmL_number : Room := { frames := 3, cells := 0, slots := 0, locals := 66 }
def fL_number_28 (N : Nat) (σ18 : St) (x15 : Int32) (x16 : Int32) (x17 : Int32) : Option (Int32 × St) :=
  bd2 (fL_digits N σ18 x16) fun r22 σ21 =>
  lt1 (x17 + r22) fun x23 =>
  if x15 ≤ (1 : Int32) then (
  some (x23, σ21))
  else (
  bd2 (fX2_type σ21 (47 : Int32)) fun r30 σ29 =>
  bd2 (fL_digits N σ29 x15) fun r33 σ32 =>
  lt1 (x23 + ((1 : Int32) + r33)) fun x34 =>
  some (x34, σ32))
def fL_number_16 (N : Nat) (σ10 : St) (x7 : Int32) (x8 : Int32) (x9 : Int32) : Option (Int32 × St) :=
  if (0 : Int32) ≤ x7 then (
  fL_number_28 N σ10 x8 x7 x9)
  else (
  fL_number_28 N σ10 x8 (-x7) x9)
def fL_number (N : Nat) (σ : St) (a1 : Int32) (a2 : Int32) : Option (Int32 × St) :=
  if (0 : Int32) ≤ a1 then (
  fL_number_16 N σ a1 a2 (0 : Int32))
  else (
  bd2 (fX2_type σ (45 : Int32)) fun r38 σ37 =>
  lt1 ((0 : Int32) + (1 : Int32)) fun x39 =>
  fL_number_16 N σ37 a1 a2 x39)
theorem wL_number_28 {l : Launch} {p : Program} {e : Env} {s : State} {m : MethodId} {args : Array Value} {below : List Frame} {meth : Method} {c : Code} {D : va_G} {A : Nat → Prop} {ad : Nat → Nat} {ca : Nat → ClassId} {rf : Int32} {σf : St} (C : Cb p s m args meth c RL cL_number 4) (X : Cx s D A (wX ad ca) (tyX ca)) (hr : meth.sig.returnType = (some .int)) {N : Nat} : ∀ (σ : St) (y0 : Int32) (y1 : Int32) (y2 : Int32), fL_number_28 N σ y0 y1 y2 = some (rf, σf) → bW p l e rmL_number s m args below meth c 0 0 (MQ below (Qw D (wX ad ca) σf (some (.int rf)) A) args s 0 0 A) 4 (wd D A (wX ad ca) s σ) 28 [(0, .ref (ad 0)), (2, .int y0)] [.int y1, .ref (ad 0), .int y2] := by
  intro σ18 x15 x16 x17 h19
  obtain ⟨r22, σ21, ec20, h20⟩ := bd2_inv h19; clear h19
  refine b_callSWi (rest := [.int x17]) C (sameX ad ca) X dL_number_28 (ctL_digits ec20) mf_L_digits ms_L_digits kl_L_24 rfl ⟨rfl, rfl⟩ ⟨Nat.le_of_ble_eq_true rfl, Nat.le_of_ble_eq_true rfl⟩ ⟨Nat.zero_le _, Nat.zero_le _⟩ rfl (Nat.le_of_ble_eq_true rfl) ?_
  refine b_iadd C dL_number_31 ?_
  obtain ⟨x23, ex23, h24⟩ := lt1_inv h20; clear h20
  refine b_nmI ex23 ?_
  refine b_istore_n (lv' := [(3, .int x23), (0, .ref (ad 0)), (2, .int x15)]) C dL_number_32 rfl (by decide) rfl ?_
  refine b_iload_n C 2 dL_number_33 rfl rfl ?_
  refine b_iconst (v := (1 : Int32)) C dL_number_34 (by decide) ?_
  refine b_icmp_le (tgt := 55) C dL_number_35 (by decide) (fun c25 => ?_) (fun c25 => ?_)
  · have h26 := ipos h24 c25; clear h24
    refine b_iload_n C 0 dL_number_55 rfl rfl ?_
    obtain ⟨rfl, rfl⟩ := so2 h26
    exact b_iret C dL_number_56 hr
  have h27 := ineg h24 c25; clear h24
  refine b_aload_n C 1 dL_number_38 rfl rfl ?_
  refine b_bipush (v := (47 : Int32)) C dL_number_39 (by decide) ?_
  obtain ⟨r30, σ29, ec28, h28⟩ := bd2_inv h27; clear h27
  refine b_callWi (rest := []) C (sameX ad ca) X dL_number_41 (ctX2_type ec28) mf_X2_type mi_X2_type kl_L_18 0 rfl rfl rfl rfl ⟨rfl, rfl⟩ ⟨Nat.le_of_ble_eq_true rfl, Nat.le_of_ble_eq_true rfl⟩ ⟨Nat.zero_le _, Nat.zero_le _⟩ rfl (Nat.le_of_ble_eq_true rfl) ?_
  refine b_pop C dL_number_44 rfl ?_
  refine b_iload_n C 0 dL_number_45 rfl rfl ?_
  refine b_iconst (v := (1 : Int32)) C dL_number_46 (by decide) ?_
  refine b_aload_n C 1 dL_number_47 rfl rfl ?_
  refine b_iload_n C 2 dL_number_48 rfl rfl ?_
  obtain ⟨r33, σ32, ec31, h31⟩ := bd2_inv h28; clear h28
  refine b_callSWi (rest := [.int (1 : Int32), .int x23]) C (sameX ad ca) X dL_number_49 (ctL_digits ec31) mf_L_digits ms_L_digits kl_L_24 rfl ⟨rfl, rfl⟩ ⟨Nat.le_of_ble_eq_true rfl, Nat.le_of_ble_eq_true rfl⟩ ⟨Nat.zero_le _, Nat.zero_le _⟩ rfl (Nat.le_of_ble_eq_true rfl) ?_
  refine b_iadd C dL_number_52 ?_
  refine b_iadd C dL_number_53 ?_
  obtain ⟨x34, ex34, h35⟩ := lt1_inv h31; clear h31
  refine b_nmI ex34 ?_
  refine b_istore_n (lv' := [(3, .int x34), (0, .ref (ad 0)), (2, .int x15)]) C dL_number_54 rfl (by decide) rfl ?_
  refine b_iload_n C 0 dL_number_55 rfl rfl ?_
  obtain ⟨rfl, rfl⟩ := so2 h35
  exact b_iret C dL_number_56 hr
theorem wL_number_16 {l : Launch} {p : Program} {e : Env} {s : State} {m : MethodId} {args : Array Value} {below : List Frame} {meth : Method} {c : Code} {D : va_G} {A : Nat → Prop} {ad : Nat → Nat} {ca : Nat → ClassId} {rf : Int32} {σf : St} (C : Cb p s m args meth c RL cL_number 4) (X : Cx s D A (wX ad ca) (tyX ca)) (hr : meth.sig.returnType = (some .int)) {N : Nat} : ∀ (σ : St) (y0 : Int32) (y1 : Int32) (y2 : Int32), fL_number_16 N σ y0 y1 y2 = some (rf, σf) → bW p l e rmL_number s m args below meth c 0 0 (MQ below (Qw D (wX ad ca) σf (some (.int rf)) A) args s 0 0 A) 4 (wd D A (wX ad ca) s σ) 16 [(0, .ref (ad 0)), (1, .int y0), (2, .int y1), (3, .int y2)] [] := by
  intro σ10 x7 x8 x9 h11
  refine b_iload_n C 3 dL_number_16 rfl rfl ?_
  refine b_aload_n C 0 dL_number_17 rfl rfl ?_
  refine b_iload_n C 1 dL_number_18 rfl rfl ?_
  refine b_if_ge (tgt := 27) C dL_number_19 (by decide) (fun c12 => ?_) (fun c12 => ?_)
  · have h13 := ipos h11 c12; clear h11
    refine b_iload_n C 1 dL_number_27 rfl rfl ?_
    exact b_sub [0, 2] rfl (wL_number_28 C X hr _ _ _ _ h13)
  have h14 := ineg h11 c12; clear h11
  refine b_iload_n C 1 dL_number_22 rfl rfl ?_
  refine b_ineg C dL_number_23 ?_
  refine b_goto (tgt := 28) C dL_number_24 (by decide) ?_
  exact b_sub [0, 2] rfl (wL_number_28 C X hr _ _ _ _ h14)
theorem ctL_number {l : Launch} {ad : Nat → Nat} {ca : Nat → ClassId} {N : Nat} {σ : St} {a1 : Int32} {a2 : Int32} {rf : Int32} {σf : St} (h : fL_number N σ a1 a2 = some (rf, σf)) : Cw l yL_number cL_number 4 (some .int) rmL_number [.ref (ad 0), .int a1, .int a2] (wX ad ca) (tyX ca) σ (some (.int rf)) σf := by
  refine Cw_of (by decide) (sameX ad ca) (Nat.le_of_ble_eq_true rfl) ?_
  intro p e s m args below meth c D A C X hr
  replace C : Cb p s m args meth c RL cL_number 4 := C
  have h3 := h; clear h
  refine b_sub (lv' := [(0, .ref (ad 0)), (1, .int a1), (2, .int a2)]) [0, 1, 2] rfl ?_
  refine b_iconst (v := (0 : Int32)) C dL_number_0 (by decide) ?_
  refine b_istore_n (lv' := [(3, .int (0 : Int32)), (0, .ref (ad 0)), (1, .int a1), (2, .int a2)]) C dL_number_1 rfl (by decide) rfl ?_
  refine b_iload_n C 2 dL_number_2 rfl rfl ?_
  refine b_if_ge (tgt := 16) C dL_number_3 (by decide) (fun c4 => ?_) (fun c4 => ?_)
  · have h5 := ipos h3 c4; clear h3
    exact b_sub [1, 2, 3, 0] rfl (wL_number_16 C X hr _ _ _ _ h5)
  have h6 := ineg h3 c4; clear h3
  refine b_aload_n C 1 dL_number_6 rfl rfl ?_
  refine b_bipush (v := (45 : Int32)) C dL_number_7 (by decide) ?_
  obtain ⟨r38, σ37, ec36, h36⟩ := bd2_inv h6; clear h6
  refine b_callWi (rest := []) C (sameX ad ca) X dL_number_9 (ctX2_type ec36) mf_X2_type mi_X2_type kl_L_18 0 rfl rfl rfl rfl ⟨rfl, rfl⟩ ⟨Nat.le_of_ble_eq_true rfl, Nat.le_of_ble_eq_true rfl⟩ ⟨Nat.zero_le _, Nat.zero_le _⟩ rfl (Nat.le_of_ble_eq_true rfl) ?_
  refine b_pop C dL_number_12 rfl ?_
  obtain ⟨x39, ex39, h40⟩ := lt1_inv h36; clear h36
  refine b_iinc (v := x39) (lv' := [(3, .int x39), (0, .ref (ad 0)), (1, .int a1), (2, .int a2)]) C 0 dL_number_13 rfl (by rw [ex39]; rfl) (by decide) rfl ?_
  exact b_sub [1, 2, 3, 0] rfl (wL_number_16 C X hr _ _ _ _ h40)
def rmL_gives : Room := { frames := 6, cells := 0, slots := 0, locals := 142 }
def fL_gives_437 (N : Nat) (σ145 : St) (x140 : Int32) (x141 : Int32) (x142 : Int32) (x143 : Int64) (x144 : Int32) : Option (Int32 × St) :=
  if x142 = (1 : Int32) then (
  if x144 = (0 : Int32) then (
  some ((0 : Int32), σ145))
  else (
  bd2 (fX2_strategy σ145 x141) fun r155 σ154 =>
  if (0 : Int32) < r155 then (
  some ((1 : Int32), σ154))
  else (
  bd2 (fX2_value N σ154 x141 (0 : Int32) (1 : Int32) (0 : Int32)) fun r161 σ160 =>
  bd2 (fX2_value N σ160 x141 (0 : Int32) (1 : Int32) (1 : Int32)) fun r164 σ163 =>
  bd0 (fL_units r161 r164 (x140.toInt64)) fun r166 =>
  if r166 = x143 then (
  some ((1 : Int32), σ163))
  else (
  some ((0 : Int32), σ163)))))
  else (
  some ((0 : Int32), σ145))
def fL_gives_436 (N : Nat) (σ138 : St) (x134 : Int32) (x135 : Int32) (x136 : Int32) (x137 : Int64) : Option (Int32 × St) :=
  fL_gives_437 N σ138 x134 x135 x136 x137 (0 : Int32)
def fL_gives_376 (N : Nat) (σ121 : St) (x116 : Int32) (x117 : Int32) (x118 : Int32) (x119 : Int64) (x120 : Int64) : Option (Int32 × St) :=
  bd2 (fX2_input N σ121 x117 (0 : Int32) (0 : Int32)) fun r125 σ124 =>
  bd2 (fX2_input N σ124 x117 (0 : Int32) (1 : Int32)) fun r128 σ127 =>
  bd0 (fL_units r125 r128 (x116.toInt64)) fun r130 =>
  if r130 = x119 then (
  bd2 (fX2_input N σ127 x117 (1 : Int32) (0 : Int32)) fun r172 σ171 =>
  bd2 (fX2_input N σ171 x117 (1 : Int32) (1 : Int32)) fun r175 σ174 =>
  bd0 (fL_units r172 r175 (x116.toInt64)) fun r177 =>
  if r177 = x120 then (
  fL_gives_437 N σ174 x116 x117 x118 x120 (1 : Int32))
  else (
  fL_gives_436 N σ174 x116 x117 x118 x120))
  else (
  fL_gives_436 N σ127 x116 x117 x118 x120)
def fL_gives_317 (N : Nat) (σ99 : St) (x92 : Int32) (x93 : Int32) (x94 : Int32) (x95 : Int32) (x96 : Int32) (x97 : Int32) (x98 : Int32) : Option (Int32 × St) :=
  bd2 (fX2_readInput N σ99 x93) fun r103 σ102 =>
  if x98 ≤ (0 : Int32) then (
  if (x94.toInt64) = (0 : Int64) then none else
  lt1 (((x95.toInt64) * (x92.toInt64)) / (x94.toInt64)) fun x109 =>
  if x97 = (0 : Int32) then (
  if (x94.toInt64) = (0 : Int64) then none else
  fL_gives_376 N σ102 x92 x93 r103 x109 (((x96.toInt64) * (x92.toInt64)) / (x94.toInt64)))
  else (
  fL_gives_376 N σ102 x92 x93 r103 x109 x109))
  else (
  if r103 = (-1003 : Int32) then (
  some ((1 : Int32), σ102))
  else (
  some ((0 : Int32), σ102)))
def fL_gives_285 (N : Nat) (σ87 : St) (x78 : Int32) (x79 : Int32) (x80 : Int32) (x81 : Int32) (x82 : Int32) (x83 : Int32) (x84 : Int32) (x85 : Int32) (x86 : Int32) : Option (Int32 × St) :=
  if x86 = (0 : Int32) then (
  if x79 = x80 then (
  fL_gives_317 N σ87 x78 x79 x81 x82 x83 x84 x85)
  else (
  bd2 (fX2_readLie N σ87 x79 x80) fun r189 σ188 =>
  if r189 = (1 : Int32) then (
  some ((1 : Int32), σ188))
  else (
  some ((0 : Int32), σ188))))
  else (
  fL_gives_317 N σ87 x78 x79 x81 x82 x83 x84 x85)
def fL_gives_136 (N : Nat) (σ67 : St) (x57 : Int32) (x58 : Int32) (x59 : Int32) (x60 : Int32) (x61 : Int32) (x62 : Int32) (x63 : Int32) (x64 : Int32) (x65 : Int32) (x66 : Int32) : Option (Int32 × St) :=
  bd2 (fX2_count N σ67 (3 : Int32)) fun r71 σ70 =>
  if ((x59 >>> ((10 : Int32) &&& 31)) &&& (7 : Int32)) = (0 : Int32) then (
  bd2 (fX2_type σ70 (120 : Int32)) fun r195 σ194 =>
  if x57 = (0 : Int32) then none else
  bd2 (fX2_readLie N σ194 x60 ((x60 + (1 : Int32)) - (x60 + (1 : Int32)) / x57 * x57)) fun r200 σ199 =>
  bd2 (fX2_clearText σ199) fun r203 σ202 =>
  bd2 (fL_number N σ202 (5 : Int32) (1 : Int32)) fun r206 σ205 =>
  lt1 (r206 + (2 : Int32)) fun x207 =>
  bd2 (fX2_type σ205 (46 : Int32)) fun r211 σ210 =>
  bd2 (fX2_type σ210 (46 : Int32)) fun r214 σ213 =>
  bd2 (fL_number N σ213 (-1 : Int32) (1 : Int32)) fun r217 σ216 =>
  if r200 = ((-100 : Int32) - x65) then (
  if x57 = (0 : Int32) then none else
  bd2 (fX2_readLie N σ216 x60 ((x60 + (1 : Int32)) - (x60 + (1 : Int32)) / x57 * x57)) fun r225 σ224 =>
  if r225 = ((-100 : Int32) - x207) then (
  bd2 (fX2_readLie N σ224 x60 x60) fun r231 σ230 =>
  if r231 = (-1001 : Int32) then (
  bd2 (fX2_readInput N σ230 x57) fun r237 σ236 =>
  if r237 = (-1001 : Int32) then (
  some ((1 : Int32), σ236))
  else (
  some ((0 : Int32), σ236)))
  else (
  some ((0 : Int32), σ230)))
  else (
  some ((0 : Int32), σ224)))
  else (
  some ((0 : Int32), σ216)))
  else (
  if ((x59 >>> ((13 : Int32) &&& 31)) &&& (1 : Int32)) = (0 : Int32) then (
  fL_gives_285 N σ70 x58 x60 x61 x62 x63 x64 x66 r71 (1 : Int32))
  else (
  fL_gives_285 N σ70 x58 x60 x61 x62 x63 x64 x66 r71 (0 : Int32)))
def fL_gives_100 (N : Nat) (σ52 : St) (x42 : Int32) (x43 : Int32) (x44 : Int32) (x45 : Int32) (x46 : Int32) (x47 : Int32) (x48 : Int32) (x49 : Int32) (x50 : Int32) (x51 : Int32) : Option (Int32 × St) :=
  if x51 = (0 : Int32) then (
  bd2 (fX2_type σ52 (46 : Int32)) fun r243 σ242 =>
  bd2 (fX2_type σ242 (46 : Int32)) fun r246 σ245 =>
  bd2 (fL_number N σ245 x49 x47) fun r249 σ248 =>
  lt1 (x50 + ((2 : Int32) + r249)) fun x250 =>
  fL_gives_136 N σ248 x42 x43 x44 x45 x46 x47 x48 x49 x250 x51)
  else (
  fL_gives_136 N σ52 x42 x43 x44 x45 x46 x47 x48 x49 x50 x51)
def fL_gives_42 (N : Nat) (σ26 : St) (x19 : Int32) (x20 : Int32) (x21 : Int32) (x22 : Int32) (x23 : Int32) (x24 : Int32) (x25 : Int32) : Option (Int32 × St) :=
  bd0 (fL_low (x22 >>> ((1 : Int32) &&& 31)) (400 : Int32)) fun r29 =>
  lt1 (r29 - (200 : Int32)) fun x30 =>
  bd0 (fL_low (x22 >>> ((9 : Int32) &&& 31)) (300 : Int32)) fun r33 =>
  lt1 (x30 + r33) fun x34 =>
  bd2 (fL_number N σ26 x30 x25) fun r38 σ37 =>
  if ((x21 >>> ((8 : Int32) &&& 31)) &&& (3 : Int32)) = (0 : Int32) then (
  fL_gives_100 N σ37 x19 x20 x21 x23 x24 x25 x30 x34 r38 (1 : Int32))
  else (
  fL_gives_100 N σ37 x19 x20 x21 x23 x24 x25 x30 x34 r38 (0 : Int32))
def fL_gives (N : Nat) (σ : St) (a1 : Int32) (a2 : Int32) (a3 : Int32) (a4 : Int32) : Option (Int32 × St) :=
  bd2 (fX2_clearText σ) fun r8 σ7 =>
  bd0 (fL_low a3 a1) fun r10 =>
  bd0 (fL_low (a3 >>> ((4 : Int32) &&& 31)) a1) fun r12 =>
  if (a4 &&& (1 : Int32)) = (0 : Int32) then (
  fL_gives_42 N σ7 a1 a2 a3 a4 r10 r12 (1 : Int32))
  else (
  if a2 ≤ (1 : Int32) then (
  fL_gives_42 N σ7 a1 a2 a3 a4 r10 r12 (1 : Int32))
  else (
  fL_gives_42 N σ7 a1 a2 a3 a4 r10 r12 a2))
theorem wL_gives_437 {l : Launch} {p : Program} {e : Env} {s : State} {m : MethodId} {args : Array Value} {below : List Frame} {meth : Method} {c : Code} {D : va_G} {A : Nat → Prop} {ad : Nat → Nat} {ca : Nat → ClassId} {rf : Int32} {σf : St} (C : Cb p s m args meth c RL cL_gives 20) (X : Cx s D A (wX ad ca) (tyX ca)) (hr : meth.sig.returnType = (some .boolean)) {N : Nat} : ∀ (σ : St) (y0 : Int32) (y1 : Int32) (y2 : Int32) (y3 : Int64) (y4 : Int32), fL_gives_437 N σ y0 y1 y2 y3 y4 = some (rf, σf) → bW p l e rmL_gives s m args below meth c 0 0 (MQ below (Qw D (wX ad ca) σf (some (.int rf)) A) args s 0 0 A) 20 (wd D A (wX ad ca) s σ) 437 [(0, .ref (ad 0)), (2, .int y0), (5, .int y1), (14, .int y2), (17, .long y3)] [.int y4] := by
  intro σ145 x140 x141 x142 x143 x144 h146
  refine b_istore (lv' := [(19, .int x144), (0, .ref (ad 0)), (2, .int x140), (5, .int x141), (14, .int x142), (17, .long x143)]) C dL_gives_437 (by decide) rfl ?_
  refine b_iload C 4 dL_gives_439 rfl ?_
  refine b_iconst (v := (1 : Int32)) C dL_gives_441 (by decide) ?_
  refine b_icmp_ne (tgt := 492) C dL_gives_442 (by decide) (fun c147 => ?_) (fun c147 => ?_)
  · have h148 := ineg h146 c147; clear h146
    refine b_iconst (v := (0 : Int32)) C dL_gives_492 (by decide) ?_
    obtain ⟨rfl, rfl⟩ := so2 h148
    exact b_zret C dL_gives_493 hr rfl
  have h149 := ipos h146 c147; clear h146
  refine b_iload C 0 dL_gives_445 rfl ?_
  refine b_if_eq (tgt := 492) C dL_gives_447 (by decide) (fun c150 => ?_) (fun c150 => ?_)
  · have h151 := ipos h149 c150; clear h149
    refine b_iconst (v := (0 : Int32)) C dL_gives_492 (by decide) ?_
    obtain ⟨rfl, rfl⟩ := so2 h151
    exact b_zret C dL_gives_493 hr rfl
  have h152 := ineg h149 c150; clear h149
  refine b_aload_n C 1 dL_gives_450 rfl rfl ?_
  refine b_iload C 3 dL_gives_451 rfl ?_
  obtain ⟨r155, σ154, ec153, h153⟩ := bd2_inv h152; clear h152
  refine b_callWi (rest := []) C (sameX ad ca) X dL_gives_453 (ctX2_strategy ec153) mf_X2_strategy mi_X2_strategy kl_L_58 0 rfl rfl rfl rfl ⟨rfl, rfl⟩ ⟨Nat.le_of_ble_eq_true rfl, Nat.le_of_ble_eq_true rfl⟩ ⟨Nat.zero_le _, Nat.zero_le _⟩ rfl (Nat.le_of_ble_eq_true rfl) ?_
  refine b_if_gt (tgt := 488) C dL_gives_456 (by decide) (fun c156 => ?_) (fun c156 => ?_)
  · have h157 := ipos h153 c156; clear h153
    refine b_iconst (v := (1 : Int32)) C dL_gives_488 (by decide) ?_
    refine b_goto (tgt := 493) C dL_gives_489 (by decide) ?_
    obtain ⟨rfl, rfl⟩ := so2 h157
    exact b_zret C dL_gives_493 hr rfl
  have h158 := ineg h153 c156; clear h153
  refine b_aload_n C 1 dL_gives_459 rfl rfl ?_
  refine b_iload C 3 dL_gives_460 rfl ?_
  refine b_iconst (v := (0 : Int32)) C dL_gives_462 (by decide) ?_
  refine b_iconst (v := (1 : Int32)) C dL_gives_463 (by decide) ?_
  refine b_iconst (v := (0 : Int32)) C dL_gives_464 (by decide) ?_
  obtain ⟨r161, σ160, ec159, h159⟩ := bd2_inv h158; clear h158
  refine b_callWl (rest := []) C (sameX ad ca) X dL_gives_465 (ctX2_value ec159) mf_X2_value mi_X2_value kl_L_61 0 rfl rfl rfl rfl ⟨rfl, rfl⟩ ⟨Nat.le_of_ble_eq_true rfl, Nat.le_of_ble_eq_true rfl⟩ ⟨Nat.zero_le _, Nat.zero_le _⟩ rfl (Nat.le_of_ble_eq_true rfl) ?_
  refine b_aload_n C 1 dL_gives_468 rfl rfl ?_
  refine b_iload C 3 dL_gives_469 rfl ?_
  refine b_iconst (v := (0 : Int32)) C dL_gives_471 (by decide) ?_
  refine b_iconst (v := (1 : Int32)) C dL_gives_472 (by decide) ?_
  refine b_iconst (v := (1 : Int32)) C dL_gives_473 (by decide) ?_
  obtain ⟨r164, σ163, ec162, h162⟩ := bd2_inv h159; clear h159
  refine b_callWl (rest := [.long r161]) C (sameX ad ca) X dL_gives_474 (ctX2_value ec162) mf_X2_value mi_X2_value kl_L_61 0 rfl rfl rfl rfl ⟨rfl, rfl⟩ ⟨Nat.le_of_ble_eq_true rfl, Nat.le_of_ble_eq_true rfl⟩ ⟨Nat.zero_le _, Nat.zero_le _⟩ rfl (Nat.le_of_ble_eq_true rfl) ?_
  refine b_iload_n C 2 dL_gives_477 rfl rfl ?_
  refine b_i2l C dL_gives_478 ?_
  obtain ⟨r166, ec165, h165⟩ := bd0_inv h162; clear h162
  refine b_callSl (rest := []) C dL_gives_479 (ctL_units ec165) mf_L_units ms_L_units kl_L_54 rfl ⟨rfl, rfl⟩ ⟨Nat.le_of_ble_eq_true rfl, Nat.le_of_ble_eq_true rfl⟩ ⟨Nat.zero_le _, Nat.zero_le _⟩ rfl (Nat.le_of_ble_eq_true rfl) ?_
  refine b_lload C 5 dL_gives_482 rfl ?_
  refine b_lc_ne (tgt := 492) C dL_gives_484 dL_gives_485 (by decide) (fun c167 => ?_) (fun c167 => ?_)
  · have h168 := ineg h165 c167; clear h165
    refine b_iconst (v := (0 : Int32)) C dL_gives_492 (by decide) ?_
    obtain ⟨rfl, rfl⟩ := so2 h168
    exact b_zret C dL_gives_493 hr rfl
  have h169 := ipos h165 c167; clear h165
  refine b_iconst (v := (1 : Int32)) C dL_gives_488 (by decide) ?_
  refine b_goto (tgt := 493) C dL_gives_489 (by decide) ?_
  obtain ⟨rfl, rfl⟩ := so2 h169
  exact b_zret C dL_gives_493 hr rfl
theorem wL_gives_436 {l : Launch} {p : Program} {e : Env} {s : State} {m : MethodId} {args : Array Value} {below : List Frame} {meth : Method} {c : Code} {D : va_G} {A : Nat → Prop} {ad : Nat → Nat} {ca : Nat → ClassId} {rf : Int32} {σf : St} (C : Cb p s m args meth c RL cL_gives 20) (X : Cx s D A (wX ad ca) (tyX ca)) (hr : meth.sig.returnType = (some .boolean)) {N : Nat} : ∀ (σ : St) (y0 : Int32) (y1 : Int32) (y2 : Int32) (y3 : Int64), fL_gives_436 N σ y0 y1 y2 y3 = some (rf, σf) → bW p l e rmL_gives s m args below meth c 0 0 (MQ below (Qw D (wX ad ca) σf (some (.int rf)) A) args s 0 0 A) 20 (wd D A (wX ad ca) s σ) 436 [(0, .ref (ad 0)), (2, .int y0), (5, .int y1), (14, .int y2), (17, .long y3)] [] := by
  intro σ138 x134 x135 x136 x137 h139
  refine b_iconst (v := (0 : Int32)) C dL_gives_436 (by decide) ?_
  exact b_sub [0, 1, 2, 3, 4] rfl (wL_gives_437 C X hr _ _ _ _ _ _ h139)
theorem wL_gives_376 {l : Launch} {p : Program} {e : Env} {s : State} {m : MethodId} {args : Array Value} {below : List Frame} {meth : Method} {c : Code} {D : va_G} {A : Nat → Prop} {ad : Nat → Nat} {ca : Nat → ClassId} {rf : Int32} {σf : St} (C : Cb p s m args meth c RL cL_gives 20) (X : Cx s D A (wX ad ca) (tyX ca)) (hr : meth.sig.returnType = (some .boolean)) {N : Nat} : ∀ (σ : St) (y0 : Int32) (y1 : Int32) (y2 : Int32) (y3 : Int64) (y4 : Int64), fL_gives_376 N σ y0 y1 y2 y3 y4 = some (rf, σf) → bW p l e rmL_gives s m args below meth c 0 0 (MQ below (Qw D (wX ad ca) σf (some (.int rf)) A) args s 0 0 A) 20 (wd D A (wX ad ca) s σ) 376 [(0, .ref (ad 0)), (2, .int y0), (5, .int y1), (14, .int y2), (15, .long y3)] [.long y4] := by
  intro σ121 x116 x117 x118 x119 x120 h122
  refine b_lstore (lv' := [(17, .long x120), (0, .ref (ad 0)), (2, .int x116), (5, .int x117), (14, .int x118), (15, .long x119)]) C dL_gives_376 (by decide) rfl ?_
  refine b_aload_n C 1 dL_gives_378 rfl rfl ?_
  refine b_iload C 3 dL_gives_379 rfl ?_
  refine b_iconst (v := (0 : Int32)) C dL_gives_381 (by decide) ?_
  refine b_iconst (v := (0 : Int32)) C dL_gives_382 (by decide) ?_
  obtain ⟨r125, σ124, ec123, h123⟩ := bd2_inv h122; clear h122
  refine b_callWl (rest := []) C (sameX ad ca) X dL_gives_383 (ctX2_input ec123) mf_X2_input mi_X2_input kl_L_50 0 rfl rfl rfl rfl ⟨rfl, rfl⟩ ⟨Nat.le_of_ble_eq_true rfl, Nat.le_of_ble_eq_true rfl⟩ ⟨Nat.zero_le _, Nat.zero_le _⟩ rfl (Nat.le_of_ble_eq_true rfl) ?_
  refine b_aload_n C 1 dL_gives_386 rfl rfl ?_
  refine b_iload C 3 dL_gives_387 rfl ?_
  refine b_iconst (v := (0 : Int32)) C dL_gives_389 (by decide) ?_
  refine b_iconst (v := (1 : Int32)) C dL_gives_390 (by decide) ?_
  obtain ⟨r128, σ127, ec126, h126⟩ := bd2_inv h123; clear h123
  refine b_callWl (rest := [.long r125]) C (sameX ad ca) X dL_gives_391 (ctX2_input ec126) mf_X2_input mi_X2_input kl_L_50 0 rfl rfl rfl rfl ⟨rfl, rfl⟩ ⟨Nat.le_of_ble_eq_true rfl, Nat.le_of_ble_eq_true rfl⟩ ⟨Nat.zero_le _, Nat.zero_le _⟩ rfl (Nat.le_of_ble_eq_true rfl) ?_
  refine b_iload_n C 2 dL_gives_394 rfl rfl ?_
  refine b_i2l C dL_gives_395 ?_
  obtain ⟨r130, ec129, h129⟩ := bd0_inv h126; clear h126
  refine b_callSl (rest := []) C dL_gives_396 (ctL_units ec129) mf_L_units ms_L_units kl_L_54 rfl ⟨rfl, rfl⟩ ⟨Nat.le_of_ble_eq_true rfl, Nat.le_of_ble_eq_true rfl⟩ ⟨Nat.zero_le _, Nat.zero_le _⟩ rfl (Nat.le_of_ble_eq_true rfl) ?_
  refine b_lload C 5 dL_gives_399 rfl ?_
  refine b_lc_ne (tgt := 436) C dL_gives_401 dL_gives_402 (by decide) (fun c131 => ?_) (fun c131 => ?_)
  · have h132 := ineg h129 c131; clear h129
    exact b_sub [1, 2, 3, 4, 0] rfl (wL_gives_436 C X hr _ _ _ _ _ h132)
  have h133 := ipos h129 c131; clear h129
  refine b_aload_n C 1 dL_gives_405 rfl rfl ?_
  refine b_iload C 3 dL_gives_406 rfl ?_
  refine b_iconst (v := (1 : Int32)) C dL_gives_408 (by decide) ?_
  refine b_iconst (v := (0 : Int32)) C dL_gives_409 (by decide) ?_
  obtain ⟨r172, σ171, ec170, h170⟩ := bd2_inv h133; clear h133
  refine b_callWl (rest := []) C (sameX ad ca) X dL_gives_410 (ctX2_input ec170) mf_X2_input mi_X2_input kl_L_50 0 rfl rfl rfl rfl ⟨rfl, rfl⟩ ⟨Nat.le_of_ble_eq_true rfl, Nat.le_of_ble_eq_true rfl⟩ ⟨Nat.zero_le _, Nat.zero_le _⟩ rfl (Nat.le_of_ble_eq_true rfl) ?_
  refine b_aload_n C 1 dL_gives_413 rfl rfl ?_
  refine b_iload C 3 dL_gives_414 rfl ?_
  refine b_iconst (v := (1 : Int32)) C dL_gives_416 (by decide) ?_
  refine b_iconst (v := (1 : Int32)) C dL_gives_417 (by decide) ?_
  obtain ⟨r175, σ174, ec173, h173⟩ := bd2_inv h170; clear h170
  refine b_callWl (rest := [.long r172]) C (sameX ad ca) X dL_gives_418 (ctX2_input ec173) mf_X2_input mi_X2_input kl_L_50 0 rfl rfl rfl rfl ⟨rfl, rfl⟩ ⟨Nat.le_of_ble_eq_true rfl, Nat.le_of_ble_eq_true rfl⟩ ⟨Nat.zero_le _, Nat.zero_le _⟩ rfl (Nat.le_of_ble_eq_true rfl) ?_
  refine b_iload_n C 2 dL_gives_421 rfl rfl ?_
  refine b_i2l C dL_gives_422 ?_
  obtain ⟨r177, ec176, h176⟩ := bd0_inv h173; clear h173
  refine b_callSl (rest := []) C dL_gives_423 (ctL_units ec176) mf_L_units ms_L_units kl_L_54 rfl ⟨rfl, rfl⟩ ⟨Nat.le_of_ble_eq_true rfl, Nat.le_of_ble_eq_true rfl⟩ ⟨Nat.zero_le _, Nat.zero_le _⟩ rfl (Nat.le_of_ble_eq_true rfl) ?_
  refine b_lload C 0 dL_gives_426 rfl ?_
  refine b_lc_ne (tgt := 436) C dL_gives_428 dL_gives_429 (by decide) (fun c178 => ?_) (fun c178 => ?_)
  · have h179 := ineg h176 c178; clear h176
    exact b_sub [1, 2, 3, 4, 0] rfl (wL_gives_436 C X hr _ _ _ _ _ h179)
  have h180 := ipos h176 c178; clear h176
  refine b_iconst (v := (1 : Int32)) C dL_gives_432 (by decide) ?_
  refine b_goto (tgt := 437) C dL_gives_433 (by decide) ?_
  exact b_sub [1, 2, 3, 4, 0] rfl (wL_gives_437 C X hr _ _ _ _ _ _ h180)
theorem wL_gives_317 {l : Launch} {p : Program} {e : Env} {s : State} {m : MethodId} {args : Array Value} {below : List Frame} {meth : Method} {c : Code} {D : va_G} {A : Nat → Prop} {ad : Nat → Nat} {ca : Nat → ClassId} {rf : Int32} {σf : St} (C : Cb p s m args meth c RL cL_gives 20) (X : Cx s D A (wX ad ca) (tyX ca)) (hr : meth.sig.returnType = (some .boolean)) {N : Nat} : ∀ (σ : St) (y0 : Int32) (y1 : Int32) (y2 : Int32) (y3 : Int32) (y4 : Int32) (y5 : Int32) (y6 : Int32), fL_gives_317 N σ y0 y1 y2 y3 y4 y5 y6 = some (rf, σf) → bW p l e rmL_gives s m args below meth c 0 0 (MQ below (Qw D (wX ad ca) σf (some (.int rf)) A) args s 0 0 A) 20 (wd D A (wX ad ca) s σ) 317 [(0, .ref (ad 0)), (2, .int y0), (5, .int y1), (7, .int y2), (8, .int y3), (9, .int y4), (11, .int y5), (12, .int y6)] [] := by
  intro σ99 x92 x93 x94 x95 x96 x97 x98 h100
  refine b_aload_n C 0 dL_gives_317 rfl rfl ?_
  refine b_iload C 2 dL_gives_318 rfl ?_
  obtain ⟨r103, σ102, ec101, h101⟩ := bd2_inv h100; clear h100
  refine b_callWi (rest := []) C (sameX ad ca) X dL_gives_320 (ctX2_readInput ec101) mf_X2_readInput mi_X2_readInput kl_L_47 0 rfl rfl rfl rfl ⟨rfl, rfl⟩ ⟨Nat.le_of_ble_eq_true rfl, Nat.le_of_ble_eq_true rfl⟩ ⟨Nat.zero_le _, Nat.zero_le _⟩ rfl (Nat.le_of_ble_eq_true rfl) ?_
  refine b_istore (lv' := [(14, .int r103), (0, .ref (ad 0)), (2, .int x92), (5, .int x93), (7, .int x94), (8, .int x95), (9, .int x96), (11, .int x97), (12, .int x98)]) C dL_gives_323 (by decide) rfl ?_
  refine b_iload C 8 dL_gives_325 rfl ?_
  refine b_if_le (tgt := 344) C dL_gives_327 (by decide) (fun c104 => ?_) (fun c104 => ?_)
  · have h105 := ipos h101 c104; clear h101
    refine b_iload C 5 dL_gives_344 rfl ?_
    refine b_i2l C dL_gives_346 ?_
    refine b_iload_n C 2 dL_gives_347 rfl rfl ?_
    refine b_i2l C dL_gives_348 ?_
    refine b_lmul C dL_gives_349 ?_
    refine b_iload C 4 dL_gives_350 rfl ?_
    refine b_i2l C dL_gives_352 ?_
    obtain ⟨g108, h107⟩ := gdn h105; clear h105
    refine b_ldiv C dL_gives_353 g108 ?_
    obtain ⟨x109, ex109, h110⟩ := lt1_inv h107; clear h107
    refine b_nmJ ex109 ?_
    refine b_lstore (lv' := [(15, .long x109), (14, .int r103), (0, .ref (ad 0)), (2, .int x92), (5, .int x93), (7, .int x94), (8, .int x95), (9, .int x96), (11, .int x97), (12, .int x98)]) C dL_gives_354 (by decide) rfl ?_
    refine b_iload C 8 dL_gives_356 rfl ?_
    refine b_if_eq (tgt := 366) C dL_gives_358 (by decide) (fun c111 => ?_) (fun c111 => ?_)
    · have h112 := ipos h110 c111; clear h110
      refine b_iload C 7 dL_gives_366 rfl ?_
      refine b_i2l C dL_gives_368 ?_
      refine b_iload_n C 3 dL_gives_369 rfl rfl ?_
      refine b_i2l C dL_gives_370 ?_
      refine b_lmul C dL_gives_371 ?_
      refine b_iload C 5 dL_gives_372 rfl ?_
      refine b_i2l C dL_gives_374 ?_
      obtain ⟨g115, h114⟩ := gdn h112; clear h112
      refine b_ldiv C dL_gives_375 g115 ?_
      exact b_sub [2, 3, 4, 1, 0] rfl (wL_gives_376 C X hr _ _ _ _ _ _ h114)
    have h113 := ineg h110 c111; clear h110
    refine b_lload C 0 dL_gives_361 rfl ?_
    refine b_goto (tgt := 376) C dL_gives_363 (by decide) ?_
    exact b_sub [2, 3, 4, 1, 0] rfl (wL_gives_376 C X hr _ _ _ _ _ _ h113)
  have h106 := ineg h101 c104; clear h101
  refine b_iload C 0 dL_gives_330 rfl ?_
  refine b_sipush (v := (-1003 : Int32)) C dL_gives_332 (by decide) ?_
  refine b_icmp_ne (tgt := 342) C dL_gives_335 (by decide) (fun c181 => ?_) (fun c181 => ?_)
  · have h182 := ineg h106 c181; clear h106
    refine b_iconst (v := (0 : Int32)) C dL_gives_342 (by decide) ?_
    obtain ⟨rfl, rfl⟩ := so2 h182
    exact b_zret C dL_gives_343 hr rfl
  have h183 := ipos h106 c181; clear h106
  refine b_iconst (v := (1 : Int32)) C dL_gives_338 (by decide) ?_
  refine b_goto (tgt := 343) C dL_gives_339 (by decide) ?_
  obtain ⟨rfl, rfl⟩ := so2 h183
  exact b_zret C dL_gives_343 hr rfl
theorem wL_gives_285 {l : Launch} {p : Program} {e : Env} {s : State} {m : MethodId} {args : Array Value} {below : List Frame} {meth : Method} {c : Code} {D : va_G} {A : Nat → Prop} {ad : Nat → Nat} {ca : Nat → ClassId} {rf : Int32} {σf : St} (C : Cb p s m args meth c RL cL_gives 20) (X : Cx s D A (wX ad ca) (tyX ca)) (hr : meth.sig.returnType = (some .boolean)) {N : Nat} : ∀ (σ : St) (y0 : Int32) (y1 : Int32) (y2 : Int32) (y3 : Int32) (y4 : Int32) (y5 : Int32) (y6 : Int32) (y7 : Int32) (y8 : Int32), fL_gives_285 N σ y0 y1 y2 y3 y4 y5 y6 y7 y8 = some (rf, σf) → bW p l e rmL_gives s m args below meth c 0 0 (MQ below (Qw D (wX ad ca) σf (some (.int rf)) A) args s 0 0 A) 20 (wd D A (wX ad ca) s σ) 285 [(0, .ref (ad 0)), (2, .int y0), (5, .int y1), (6, .int y2), (7, .int y3), (8, .int y4), (9, .int y5), (11, .int y6), (12, .int y7)] [.int y8] := by
  intro σ87 x78 x79 x80 x81 x82 x83 x84 x85 x86 h88
  refine b_istore (lv' := [(13, .int x86), (0, .ref (ad 0)), (2, .int x78), (5, .int x79), (6, .int x80), (7, .int x81), (8, .int x82), (9, .int x83), (11, .int x84), (12, .int x85)]) C dL_gives_285 (by decide) rfl ?_
  refine b_iload C 0 dL_gives_287 rfl ?_
  refine b_if_ne (tgt := 317) C dL_gives_289 (by decide) (fun c89 => ?_) (fun c89 => ?_)
  · have h90 := ineg h88 c89; clear h88
    exact b_sub [1, 2, 3, 5, 6, 7, 8, 9] rfl (wL_gives_317 C X hr _ _ _ _ _ _ _ _ h90)
  have h91 := ipos h88 c89; clear h88
  refine b_iload C 3 dL_gives_292 rfl ?_
  refine b_iload C 4 dL_gives_294 rfl ?_
  refine b_icmp_eq (tgt := 317) C dL_gives_296 (by decide) (fun c184 => ?_) (fun c184 => ?_)
  · have h185 := ipos h91 c184; clear h91
    exact b_sub [1, 2, 3, 5, 6, 7, 8, 9] rfl (wL_gives_317 C X hr _ _ _ _ _ _ _ _ h185)
  have h186 := ineg h91 c184; clear h91
  refine b_aload_n C 1 dL_gives_299 rfl rfl ?_
  refine b_iload C 3 dL_gives_300 rfl ?_
  refine b_iload C 4 dL_gives_302 rfl ?_
  obtain ⟨r189, σ188, ec187, h187⟩ := bd2_inv h186; clear h186
  refine b_callWi (rest := []) C (sameX ad ca) X dL_gives_304 (ctX2_readLie ec187) mf_X2_readLie mi_X2_readLie kl_L_44 0 rfl rfl rfl rfl ⟨rfl, rfl⟩ ⟨Nat.le_of_ble_eq_true rfl, Nat.le_of_ble_eq_true rfl⟩ ⟨Nat.zero_le _, Nat.zero_le _⟩ rfl (Nat.le_of_ble_eq_true rfl) ?_
  refine b_iconst (v := (1 : Int32)) C dL_gives_307 (by decide) ?_
  refine b_icmp_ne (tgt := 315) C dL_gives_308 (by decide) (fun c190 => ?_) (fun c190 => ?_)
  · have h191 := ineg h187 c190; clear h187
    refine b_iconst (v := (0 : Int32)) C dL_gives_315 (by decide) ?_
    obtain ⟨rfl, rfl⟩ := so2 h191
    exact b_zret C dL_gives_316 hr rfl
  have h192 := ipos h187 c190; clear h187
  refine b_iconst (v := (1 : Int32)) C dL_gives_311 (by decide) ?_
  refine b_goto (tgt := 316) C dL_gives_312 (by decide) ?_
  obtain ⟨rfl, rfl⟩ := so2 h192
  exact b_zret C dL_gives_316 hr rfl
theorem wL_gives_136 {l : Launch} {p : Program} {e : Env} {s : State} {m : MethodId} {args : Array Value} {below : List Frame} {meth : Method} {c : Code} {D : va_G} {A : Nat → Prop} {ad : Nat → Nat} {ca : Nat → ClassId} {rf : Int32} {σf : St} (C : Cb p s m args meth c RL cL_gives 20) (X : Cx s D A (wX ad ca) (tyX ca)) (hr : meth.sig.returnType = (some .boolean)) {N : Nat} : ∀ (σ : St) (y0 : Int32) (y1 : Int32) (y2 : Int32) (y3 : Int32) (y4 : Int32) (y5 : Int32) (y6 : Int32) (y7 : Int32) (y8 : Int32) (y9 : Int32), fL_gives_136 N σ y0 y1 y2 y3 y4 y5 y6 y7 y8 y9 = some (rf, σf) → bW p l e rmL_gives s m args below meth c 0 0 (MQ below (Qw D (wX ad ca) σf (some (.int rf)) A) args s 0 0 A) 20 (wd D A (wX ad ca) s σ) 136 [(0, .ref (ad 0)), (1, .int y0), (2, .int y1), (3, .int y2), (5, .int y3), (6, .int y4), (7, .int y5), (8, .int y6), (9, .int y7), (10, .int y8), (11, .int y9)] [] := by
  intro σ67 x57 x58 x59 x60 x61 x62 x63 x64 x65 x66 h68
  refine b_aload_n C 0 dL_gives_136 rfl rfl ?_
  refine b_iconst (v := (3 : Int32)) C dL_gives_137 (by decide) ?_
  obtain ⟨r71, σ70, ec69, h69⟩ := bd2_inv h68; clear h68
  refine b_callWi (rest := []) C (sameX ad ca) X dL_gives_138 (ctX2_count ec69) mf_X2_count mi_X2_count kl_L_40 0 rfl rfl rfl rfl ⟨rfl, rfl⟩ ⟨Nat.le_of_ble_eq_true rfl, Nat.le_of_ble_eq_true rfl⟩ ⟨Nat.zero_le _, Nat.zero_le _⟩ rfl (Nat.le_of_ble_eq_true rfl) ?_
  refine b_istore (lv' := [(12, .int r71), (0, .ref (ad 0)), (1, .int x57), (2, .int x58), (3, .int x59), (5, .int x60), (6, .int x61), (7, .int x62), (8, .int x63), (9, .int x64), (10, .int x65), (11, .int x66)]) C dL_gives_141 (by decide) rfl ?_
  refine b_iload_n C 4 dL_gives_143 rfl rfl ?_
  refine b_bipush (v := (10 : Int32)) C dL_gives_144 (by decide) ?_
  refine b_ishr C dL_gives_146 ?_
  refine b_bipush (v := (7 : Int32)) C dL_gives_147 (by decide) ?_
  refine b_iand C dL_gives_149 ?_
  refine b_if_ne (tgt := 271) C dL_gives_150 (by decide) (fun c72 => ?_) (fun c72 => ?_)
  · have h73 := ineg h69 c72; clear h69
    refine b_iload_n C 4 dL_gives_271 rfl rfl ?_
    refine b_bipush (v := (13 : Int32)) C dL_gives_272 (by decide) ?_
    refine b_ishr C dL_gives_274 ?_
    refine b_iconst (v := (1 : Int32)) C dL_gives_275 (by decide) ?_
    refine b_iand C dL_gives_276 ?_
    refine b_if_ne (tgt := 284) C dL_gives_277 (by decide) (fun c75 => ?_) (fun c75 => ?_)
    · have h76 := ineg h73 c75; clear h73
      refine b_iconst (v := (0 : Int32)) C dL_gives_284 (by decide) ?_
      exact b_sub [1, 3, 5, 6, 7, 8, 9, 11, 0] rfl (wL_gives_285 C X hr _ _ _ _ _ _ _ _ _ _ h76)
    have h77 := ipos h73 c75; clear h73
    refine b_iconst (v := (1 : Int32)) C dL_gives_280 (by decide) ?_
    refine b_goto (tgt := 285) C dL_gives_281 (by decide) ?_
    exact b_sub [1, 3, 5, 6, 7, 8, 9, 11, 0] rfl (wL_gives_285 C X hr _ _ _ _ _ _ _ _ _ _ h77)
  have h74 := ipos h69 c72; clear h69
  refine b_aload_n C 1 dL_gives_153 rfl rfl ?_
  refine b_bipush (v := (120 : Int32)) C dL_gives_154 (by decide) ?_
  obtain ⟨r195, σ194, ec193, h193⟩ := bd2_inv h74; clear h74
  refine b_callWi (rest := []) C (sameX ad ca) X dL_gives_156 (ctX2_type ec193) mf_X2_type mi_X2_type kl_L_18 0 rfl rfl rfl rfl ⟨rfl, rfl⟩ ⟨Nat.le_of_ble_eq_true rfl, Nat.le_of_ble_eq_true rfl⟩ ⟨Nat.zero_le _, Nat.zero_le _⟩ rfl (Nat.le_of_ble_eq_true rfl) ?_
  refine b_pop C dL_gives_159 rfl ?_
  refine b_aload_n C 1 dL_gives_160 rfl rfl ?_
  refine b_iload C 5 dL_gives_161 rfl ?_
  refine b_iload C 5 dL_gives_163 rfl ?_
  refine b_iconst (v := (1 : Int32)) C dL_gives_165 (by decide) ?_
  refine b_iadd C dL_gives_166 ?_
  refine b_iload_n C 2 dL_gives_167 rfl rfl ?_
  obtain ⟨g197, h196⟩ := gdn h193; clear h193
  refine b_irem C dL_gives_168 g197 ?_
  obtain ⟨r200, σ199, ec198, h198⟩ := bd2_inv h196; clear h196
  refine b_callWi (rest := []) C (sameX ad ca) X dL_gives_169 (ctX2_readLie ec198) mf_X2_readLie mi_X2_readLie kl_L_44 0 rfl rfl rfl rfl ⟨rfl, rfl⟩ ⟨Nat.le_of_ble_eq_true rfl, Nat.le_of_ble_eq_true rfl⟩ ⟨Nat.zero_le _, Nat.zero_le _⟩ rfl (Nat.le_of_ble_eq_true rfl) ?_
  refine b_istore (lv' := [(13, .int r200), (12, .int r71), (0, .ref (ad 0)), (1, .int x57), (2, .int x58), (3, .int x59), (5, .int x60), (6, .int x61), (7, .int x62), (8, .int x63), (9, .int x64), (10, .int x65), (11, .int x66)]) C dL_gives_172 (by decide) rfl ?_
  refine b_aload_n C 2 dL_gives_174 rfl rfl ?_
  obtain ⟨r203, σ202, ec201, h201⟩ := bd2_inv h198; clear h198
  refine b_callWi (rest := []) C (sameX ad ca) X dL_gives_175 (ctX2_clearText ec201) mf_X2_clearText mi_X2_clearText kl_L_28 0 rfl rfl rfl rfl ⟨rfl, rfl⟩ ⟨Nat.le_of_ble_eq_true rfl, Nat.le_of_ble_eq_true rfl⟩ ⟨Nat.zero_le _, Nat.zero_le _⟩ rfl (Nat.le_of_ble_eq_true rfl) ?_
  refine b_pop C dL_gives_178 rfl ?_
  refine b_aload_n C 2 dL_gives_179 rfl rfl ?_
  refine b_iconst (v := (5 : Int32)) C dL_gives_180 (by decide) ?_
  refine b_iconst (v := (1 : Int32)) C dL_gives_181 (by decide) ?_
  obtain ⟨r206, σ205, ec204, h204⟩ := bd2_inv h201; clear h201
  refine b_callSWi (rest := []) C (sameX ad ca) X dL_gives_182 (ctL_number ec204) mf_L_number ms_L_number kl_L_36 rfl ⟨rfl, rfl⟩ ⟨Nat.le_of_ble_eq_true rfl, Nat.le_of_ble_eq_true rfl⟩ ⟨Nat.zero_le _, Nat.zero_le _⟩ rfl (Nat.le_of_ble_eq_true rfl) ?_
  refine b_iconst (v := (2 : Int32)) C dL_gives_185 (by decide) ?_
  refine b_iadd C dL_gives_186 ?_
  obtain ⟨x207, ex207, h208⟩ := lt1_inv h204; clear h204
  refine b_nmI ex207 ?_
  refine b_istore (lv' := [(14, .int x207), (13, .int r200), (12, .int r71), (0, .ref (ad 0)), (1, .int x57), (2, .int x58), (3, .int x59), (5, .int x60), (6, .int x61), (7, .int x62), (8, .int x63), (9, .int x64), (10, .int x65), (11, .int x66)]) C dL_gives_187 (by decide) rfl ?_
  refine b_aload_n C 3 dL_gives_189 rfl rfl ?_
  refine b_bipush (v := (46 : Int32)) C dL_gives_190 (by decide) ?_
  obtain ⟨r211, σ210, ec209, h209⟩ := bd2_inv h208; clear h208
  refine b_callWi (rest := []) C (sameX ad ca) X dL_gives_192 (ctX2_type ec209) mf_X2_type mi_X2_type kl_L_18 0 rfl rfl rfl rfl ⟨rfl, rfl⟩ ⟨Nat.le_of_ble_eq_true rfl, Nat.le_of_ble_eq_true rfl⟩ ⟨Nat.zero_le _, Nat.zero_le _⟩ rfl (Nat.le_of_ble_eq_true rfl) ?_
  refine b_pop C dL_gives_195 rfl ?_
  refine b_aload_n C 3 dL_gives_196 rfl rfl ?_
  refine b_bipush (v := (46 : Int32)) C dL_gives_197 (by decide) ?_
  obtain ⟨r214, σ213, ec212, h212⟩ := bd2_inv h209; clear h209
  refine b_callWi (rest := []) C (sameX ad ca) X dL_gives_199 (ctX2_type ec212) mf_X2_type mi_X2_type kl_L_18 0 rfl rfl rfl rfl ⟨rfl, rfl⟩ ⟨Nat.le_of_ble_eq_true rfl, Nat.le_of_ble_eq_true rfl⟩ ⟨Nat.zero_le _, Nat.zero_le _⟩ rfl (Nat.le_of_ble_eq_true rfl) ?_
  refine b_pop C dL_gives_202 rfl ?_
  refine b_aload_n C 3 dL_gives_203 rfl rfl ?_
  refine b_iconst (v := (-1 : Int32)) C dL_gives_204 (by decide) ?_
  refine b_iconst (v := (1 : Int32)) C dL_gives_205 (by decide) ?_
  obtain ⟨r217, σ216, ec215, h215⟩ := bd2_inv h212; clear h212
  refine b_callSWi (rest := []) C (sameX ad ca) X dL_gives_206 (ctL_number ec215) mf_L_number ms_L_number kl_L_36 rfl ⟨rfl, rfl⟩ ⟨Nat.le_of_ble_eq_true rfl, Nat.le_of_ble_eq_true rfl⟩ ⟨Nat.zero_le _, Nat.zero_le _⟩ rfl (Nat.le_of_ble_eq_true rfl) ?_
  refine b_pop C dL_gives_209 rfl ?_
  refine b_iload C 1 dL_gives_210 rfl ?_
  refine b_bipush (v := (-100 : Int32)) C dL_gives_212 (by decide) ?_
  refine b_iload C 12 dL_gives_214 rfl ?_
  refine b_isub C dL_gives_216 ?_
  refine b_icmp_ne (tgt := 269) C dL_gives_217 (by decide) (fun c218 => ?_) (fun c218 => ?_)
  · have h219 := ineg h215 c218; clear h215
    refine b_iconst (v := (0 : Int32)) C dL_gives_269 (by decide) ?_
    obtain ⟨rfl, rfl⟩ := so2 h219
    exact b_zret C dL_gives_270 hr rfl
  have h220 := ipos h215 c218; clear h215
  refine b_aload_n C 3 dL_gives_220 rfl rfl ?_
  refine b_iload C 7 dL_gives_221 rfl ?_
  refine b_iload C 7 dL_gives_223 rfl ?_
  refine b_iconst (v := (1 : Int32)) C dL_gives_225 (by decide) ?_
  refine b_iadd C dL_gives_226 ?_
  refine b_iload_n C 4 dL_gives_227 rfl rfl ?_
  obtain ⟨g222, h221⟩ := gdn h220; clear h220
  refine b_irem C dL_gives_228 g222 ?_
  obtain ⟨r225, σ224, ec223, h223⟩ := bd2_inv h221; clear h221
  refine b_callWi (rest := []) C (sameX ad ca) X dL_gives_229 (ctX2_readLie ec223) mf_X2_readLie mi_X2_readLie kl_L_44 0 rfl rfl rfl rfl ⟨rfl, rfl⟩ ⟨Nat.le_of_ble_eq_true rfl, Nat.le_of_ble_eq_true rfl⟩ ⟨Nat.zero_le _, Nat.zero_le _⟩ rfl (Nat.le_of_ble_eq_true rfl) ?_
  refine b_bipush (v := (-100 : Int32)) C dL_gives_232 (by decide) ?_
  refine b_iload C 0 dL_gives_234 rfl ?_
  refine b_isub C dL_gives_236 ?_
  refine b_icmp_ne (tgt := 269) C dL_gives_237 (by decide) (fun c226 => ?_) (fun c226 => ?_)
  · have h227 := ineg h223 c226; clear h223
    refine b_iconst (v := (0 : Int32)) C dL_gives_269 (by decide) ?_
    obtain ⟨rfl, rfl⟩ := so2 h227
    exact b_zret C dL_gives_270 hr rfl
  have h228 := ipos h223 c226; clear h223
  refine b_aload_n C 3 dL_gives_240 rfl rfl ?_
  refine b_iload C 7 dL_gives_241 rfl ?_
  refine b_iload C 7 dL_gives_243 rfl ?_
  obtain ⟨r231, σ230, ec229, h229⟩ := bd2_inv h228; clear h228
  refine b_callWi (rest := []) C (sameX ad ca) X dL_gives_245 (ctX2_readLie ec229) mf_X2_readLie mi_X2_readLie kl_L_44 0 rfl rfl rfl rfl ⟨rfl, rfl⟩ ⟨Nat.le_of_ble_eq_true rfl, Nat.le_of_ble_eq_true rfl⟩ ⟨Nat.zero_le _, Nat.zero_le _⟩ rfl (Nat.le_of_ble_eq_true rfl) ?_
  refine b_sipush (v := (-1001 : Int32)) C dL_gives_248 (by decide) ?_
  refine b_icmp_ne (tgt := 269) C dL_gives_251 (by decide) (fun c232 => ?_) (fun c232 => ?_)
  · have h233 := ineg h229 c232; clear h229
    refine b_iconst (v := (0 : Int32)) C dL_gives_269 (by decide) ?_
    obtain ⟨rfl, rfl⟩ := so2 h233
    exact b_zret C dL_gives_270 hr rfl
  have h234 := ipos h229 c232; clear h229
  refine b_aload_n C 3 dL_gives_254 rfl rfl ?_
  refine b_iload_n C 4 dL_gives_255 rfl rfl ?_
  obtain ⟨r237, σ236, ec235, h235⟩ := bd2_inv h234; clear h234
  refine b_callWi (rest := []) C (sameX ad ca) X dL_gives_256 (ctX2_readInput ec235) mf_X2_readInput mi_X2_readInput kl_L_47 0 rfl rfl rfl rfl ⟨rfl, rfl⟩ ⟨Nat.le_of_ble_eq_true rfl, Nat.le_of_ble_eq_true rfl⟩ ⟨Nat.zero_le _, Nat.zero_le _⟩ rfl (Nat.le_of_ble_eq_true rfl) ?_
  refine b_sipush (v := (-1001 : Int32)) C dL_gives_259 (by decide) ?_
  refine b_icmp_ne (tgt := 269) C dL_gives_262 (by decide) (fun c238 => ?_) (fun c238 => ?_)
  · have h239 := ineg h235 c238; clear h235
    refine b_iconst (v := (0 : Int32)) C dL_gives_269 (by decide) ?_
    obtain ⟨rfl, rfl⟩ := so2 h239
    exact b_zret C dL_gives_270 hr rfl
  have h240 := ipos h235 c238; clear h235
  refine b_iconst (v := (1 : Int32)) C dL_gives_265 (by decide) ?_
  refine b_goto (tgt := 270) C dL_gives_266 (by decide) ?_
  obtain ⟨rfl, rfl⟩ := so2 h240
  exact b_zret C dL_gives_270 hr rfl
theorem wL_gives_100 {l : Launch} {p : Program} {e : Env} {s : State} {m : MethodId} {args : Array Value} {below : List Frame} {meth : Method} {c : Code} {D : va_G} {A : Nat → Prop} {ad : Nat → Nat} {ca : Nat → ClassId} {rf : Int32} {σf : St} (C : Cb p s m args meth c RL cL_gives 20) (X : Cx s D A (wX ad ca) (tyX ca)) (hr : meth.sig.returnType = (some .boolean)) {N : Nat} : ∀ (σ : St) (y0 : Int32) (y1 : Int32) (y2 : Int32) (y3 : Int32) (y4 : Int32) (y5 : Int32) (y6 : Int32) (y7 : Int32) (y8 : Int32) (y9 : Int32), fL_gives_100 N σ y0 y1 y2 y3 y4 y5 y6 y7 y8 y9 = some (rf, σf) → bW p l e rmL_gives s m args below meth c 0 0 (MQ below (Qw D (wX ad ca) σf (some (.int rf)) A) args s 0 0 A) 20 (wd D A (wX ad ca) s σ) 100 [(0, .ref (ad 0)), (1, .int y0), (2, .int y1), (3, .int y2), (5, .int y3), (6, .int y4), (7, .int y5), (8, .int y6), (9, .int y7), (10, .int y8)] [.int y9] := by
  intro σ52 x42 x43 x44 x45 x46 x47 x48 x49 x50 x51 h53
  refine b_istore (lv' := [(11, .int x51), (0, .ref (ad 0)), (1, .int x42), (2, .int x43), (3, .int x44), (5, .int x45), (6, .int x46), (7, .int x47), (8, .int x48), (9, .int x49), (10, .int x50)]) C dL_gives_100 (by decide) rfl ?_
  refine b_iload C 0 dL_gives_102 rfl ?_
  refine b_if_ne (tgt := 136) C dL_gives_104 (by decide) (fun c54 => ?_) (fun c54 => ?_)
  · have h55 := ineg h53 c54; clear h53
    exact b_sub [1, 2, 3, 4, 5, 6, 7, 8, 9, 10, 0] rfl (wL_gives_136 C X hr _ _ _ _ _ _ _ _ _ _ _ h55)
  have h56 := ipos h53 c54; clear h53
  refine b_aload_n C 1 dL_gives_107 rfl rfl ?_
  refine b_bipush (v := (46 : Int32)) C dL_gives_108 (by decide) ?_
  obtain ⟨r243, σ242, ec241, h241⟩ := bd2_inv h56; clear h56
  refine b_callWi (rest := []) C (sameX ad ca) X dL_gives_110 (ctX2_type ec241) mf_X2_type mi_X2_type kl_L_18 0 rfl rfl rfl rfl ⟨rfl, rfl⟩ ⟨Nat.le_of_ble_eq_true rfl, Nat.le_of_ble_eq_true rfl⟩ ⟨Nat.zero_le _, Nat.zero_le _⟩ rfl (Nat.le_of_ble_eq_true rfl) ?_
  refine b_pop C dL_gives_113 rfl ?_
  refine b_aload_n C 1 dL_gives_114 rfl rfl ?_
  refine b_bipush (v := (46 : Int32)) C dL_gives_115 (by decide) ?_
  obtain ⟨r246, σ245, ec244, h244⟩ := bd2_inv h241; clear h241
  refine b_callWi (rest := []) C (sameX ad ca) X dL_gives_117 (ctX2_type ec244) mf_X2_type mi_X2_type kl_L_18 0 rfl rfl rfl rfl ⟨rfl, rfl⟩ ⟨Nat.le_of_ble_eq_true rfl, Nat.le_of_ble_eq_true rfl⟩ ⟨Nat.zero_le _, Nat.zero_le _⟩ rfl (Nat.le_of_ble_eq_true rfl) ?_
  refine b_pop C dL_gives_120 rfl ?_
  refine b_iload C 10 dL_gives_121 rfl ?_
  refine b_iconst (v := (2 : Int32)) C dL_gives_123 (by decide) ?_
  refine b_aload_n C 1 dL_gives_124 rfl rfl ?_
  refine b_iload C 9 dL_gives_125 rfl ?_
  refine b_iload C 7 dL_gives_127 rfl ?_
  obtain ⟨r249, σ248, ec247, h247⟩ := bd2_inv h244; clear h244
  refine b_callSWi (rest := [.int (2 : Int32), .int x50]) C (sameX ad ca) X dL_gives_129 (ctL_number ec247) mf_L_number ms_L_number kl_L_36 rfl ⟨rfl, rfl⟩ ⟨Nat.le_of_ble_eq_true rfl, Nat.le_of_ble_eq_true rfl⟩ ⟨Nat.zero_le _, Nat.zero_le _⟩ rfl (Nat.le_of_ble_eq_true rfl) ?_
  refine b_iadd C dL_gives_132 ?_
  refine b_iadd C dL_gives_133 ?_
  obtain ⟨x250, ex250, h251⟩ := lt1_inv h247; clear h247
  refine b_nmI ex250 ?_
  refine b_istore (lv' := [(10, .int x250), (11, .int x51), (0, .ref (ad 0)), (1, .int x42), (2, .int x43), (3, .int x44), (5, .int x45), (6, .int x46), (7, .int x47), (8, .int x48), (9, .int x49)]) C dL_gives_134 (by decide) rfl ?_
  exact b_sub [2, 3, 4, 5, 6, 7, 8, 9, 10, 0, 1] rfl (wL_gives_136 C X hr _ _ _ _ _ _ _ _ _ _ _ h251)
theorem wL_gives_42 {l : Launch} {p : Program} {e : Env} {s : State} {m : MethodId} {args : Array Value} {below : List Frame} {meth : Method} {c : Code} {D : va_G} {A : Nat → Prop} {ad : Nat → Nat} {ca : Nat → ClassId} {rf : Int32} {σf : St} (C : Cb p s m args meth c RL cL_gives 20) (X : Cx s D A (wX ad ca) (tyX ca)) (hr : meth.sig.returnType = (some .boolean)) {N : Nat} : ∀ (σ : St) (y0 : Int32) (y1 : Int32) (y2 : Int32) (y3 : Int32) (y4 : Int32) (y5 : Int32) (y6 : Int32), fL_gives_42 N σ y0 y1 y2 y3 y4 y5 y6 = some (rf, σf) → bW p l e rmL_gives s m args below meth c 0 0 (MQ below (Qw D (wX ad ca) σf (some (.int rf)) A) args s 0 0 A) 20 (wd D A (wX ad ca) s σ) 42 [(0, .ref (ad 0)), (1, .int y0), (2, .int y1), (3, .int y2), (4, .int y3), (5, .int y4), (6, .int y5)] [.int y6] := by
  intro σ26 x19 x20 x21 x22 x23 x24 x25 h27
  refine b_istore (lv' := [(7, .int x25), (0, .ref (ad 0)), (1, .int x19), (2, .int x20), (3, .int x21), (4, .int x22), (5, .int x23), (6, .int x24)]) C dL_gives_42 (by decide) rfl ?_
  refine b_iload C 5 dL_gives_44 rfl ?_
  refine b_iconst (v := (1 : Int32)) C dL_gives_46 (by decide) ?_
  refine b_ishr C dL_gives_47 ?_
  refine b_sipush (v := (400 : Int32)) C dL_gives_48 (by decide) ?_
  obtain ⟨r29, ec28, h28⟩ := bd0_inv h27; clear h27
  refine b_callSi (rest := []) C dL_gives_51 (ctL_low ec28) mf_L_low ms_L_low kl_L_32 rfl ⟨rfl, rfl⟩ ⟨Nat.le_of_ble_eq_true rfl, Nat.le_of_ble_eq_true rfl⟩ ⟨Nat.zero_le _, Nat.zero_le _⟩ rfl (Nat.le_of_ble_eq_true rfl) ?_
  refine b_sipush (v := (200 : Int32)) C dL_gives_54 (by decide) ?_
  refine b_isub C dL_gives_57 ?_
  obtain ⟨x30, ex30, h31⟩ := lt1_inv h28; clear h28
  refine b_nmI ex30 ?_
  refine b_istore (lv' := [(8, .int x30), (7, .int x25), (0, .ref (ad 0)), (1, .int x19), (2, .int x20), (3, .int x21), (4, .int x22), (5, .int x23), (6, .int x24)]) C dL_gives_58 (by decide) rfl ?_
  refine b_iload C 0 dL_gives_60 rfl ?_
  refine b_iload C 6 dL_gives_62 rfl ?_
  refine b_bipush (v := (9 : Int32)) C dL_gives_64 (by decide) ?_
  refine b_ishr C dL_gives_66 ?_
  refine b_sipush (v := (300 : Int32)) C dL_gives_67 (by decide) ?_
  obtain ⟨r33, ec32, h32⟩ := bd0_inv h31; clear h31
  refine b_callSi (rest := [.int x30]) C dL_gives_70 (ctL_low ec32) mf_L_low ms_L_low kl_L_32 rfl ⟨rfl, rfl⟩ ⟨Nat.le_of_ble_eq_true rfl, Nat.le_of_ble_eq_true rfl⟩ ⟨Nat.zero_le _, Nat.zero_le _⟩ rfl (Nat.le_of_ble_eq_true rfl) ?_
  refine b_iadd C dL_gives_73 ?_
  obtain ⟨x34, ex34, h35⟩ := lt1_inv h32; clear h32
  refine b_nmI ex34 ?_
  refine b_istore (lv' := [(9, .int x34), (8, .int x30), (7, .int x25), (0, .ref (ad 0)), (1, .int x19), (2, .int x20), (3, .int x21), (4, .int x22), (5, .int x23), (6, .int x24)]) C dL_gives_74 (by decide) rfl ?_
  refine b_aload_n C 3 dL_gives_76 rfl rfl ?_
  refine b_iload C 1 dL_gives_77 rfl ?_
  refine b_iload C 2 dL_gives_79 rfl ?_
  obtain ⟨r38, σ37, ec36, h36⟩ := bd2_inv h35; clear h35
  refine b_callSWi (rest := []) C (sameX ad ca) X dL_gives_81 (ctL_number ec36) mf_L_number ms_L_number kl_L_36 rfl ⟨rfl, rfl⟩ ⟨Nat.le_of_ble_eq_true rfl, Nat.le_of_ble_eq_true rfl⟩ ⟨Nat.zero_le _, Nat.zero_le _⟩ rfl (Nat.le_of_ble_eq_true rfl) ?_
  refine b_istore (lv' := [(10, .int r38), (9, .int x34), (8, .int x30), (7, .int x25), (0, .ref (ad 0)), (1, .int x19), (2, .int x20), (3, .int x21), (4, .int x22), (5, .int x23), (6, .int x24)]) C dL_gives_84 (by decide) rfl ?_
  refine b_iload_n C 7 dL_gives_86 rfl rfl ?_
  refine b_bipush (v := (8 : Int32)) C dL_gives_87 (by decide) ?_
  refine b_ishr C dL_gives_89 ?_
  refine b_iconst (v := (3 : Int32)) C dL_gives_90 (by decide) ?_
  refine b_iand C dL_gives_91 ?_
  refine b_if_ne (tgt := 99) C dL_gives_92 (by decide) (fun c39 => ?_) (fun c39 => ?_)
  · have h40 := ineg h36 c39; clear h36
    refine b_iconst (v := (0 : Int32)) C dL_gives_99 (by decide) ?_
    exact b_sub [4, 5, 6, 7, 9, 10, 3, 2, 1, 0] rfl (wL_gives_100 C X hr _ _ _ _ _ _ _ _ _ _ _ h40)
  have h41 := ipos h36 c39; clear h36
  refine b_iconst (v := (1 : Int32)) C dL_gives_95 (by decide) ?_
  refine b_goto (tgt := 100) C dL_gives_96 (by decide) ?_
  exact b_sub [4, 5, 6, 7, 9, 10, 3, 2, 1, 0] rfl (wL_gives_100 C X hr _ _ _ _ _ _ _ _ _ _ _ h41)
theorem ctL_gives {l : Launch} {ad : Nat → Nat} {ca : Nat → ClassId} {N : Nat} {σ : St} {a1 : Int32} {a2 : Int32} {a3 : Int32} {a4 : Int32} {rf : Int32} {σf : St} (h : fL_gives N σ a1 a2 a3 a4 = some (rf, σf)) : Cw l yL_gives cL_gives 20 (some .boolean) rmL_gives [.ref (ad 0), .int a1, .int a2, .int a3, .int a4] (wX ad ca) (tyX ca) σ (some (.int rf)) σf := by
  refine Cw_of (by decide) (sameX ad ca) (Nat.le_of_ble_eq_true rfl) ?_
  intro p e s m args below meth c D A C X hr
  replace C : Cb p s m args meth c RL cL_gives 20 := C
  have h5 := h; clear h
  refine b_sub (lv' := [(0, .ref (ad 0)), (1, .int a1), (2, .int a2), (3, .int a3), (4, .int a4)]) [0, 1, 2, 3, 4] rfl ?_
  refine b_aload_n C 0 dL_gives_0 rfl rfl ?_
  obtain ⟨r8, σ7, ec6, h6⟩ := bd2_inv h5; clear h5
  refine b_callWi (rest := []) C (sameX ad ca) X dL_gives_1 (ctX2_clearText ec6) mf_X2_clearText mi_X2_clearText kl_L_28 0 rfl rfl rfl rfl ⟨rfl, rfl⟩ ⟨Nat.le_of_ble_eq_true rfl, Nat.le_of_ble_eq_true rfl⟩ ⟨Nat.zero_le _, Nat.zero_le _⟩ rfl (Nat.le_of_ble_eq_true rfl) ?_
  refine b_pop C dL_gives_4 rfl ?_
  refine b_iload_n C 3 dL_gives_5 rfl rfl ?_
  refine b_iload_n C 1 dL_gives_6 rfl rfl ?_
  obtain ⟨r10, ec9, h9⟩ := bd0_inv h6; clear h6
  refine b_callSi (rest := []) C dL_gives_7 (ctL_low ec9) mf_L_low ms_L_low kl_L_32 rfl ⟨rfl, rfl⟩ ⟨Nat.le_of_ble_eq_true rfl, Nat.le_of_ble_eq_true rfl⟩ ⟨Nat.zero_le _, Nat.zero_le _⟩ rfl (Nat.le_of_ble_eq_true rfl) ?_
  refine b_istore (lv' := [(5, .int r10), (0, .ref (ad 0)), (1, .int a1), (2, .int a2), (3, .int a3), (4, .int a4)]) C dL_gives_10 (by decide) rfl ?_
  refine b_iload_n C 4 dL_gives_12 rfl rfl ?_
  refine b_iconst (v := (4 : Int32)) C dL_gives_13 (by decide) ?_
  refine b_ishr C dL_gives_14 ?_
  refine b_iload_n C 2 dL_gives_15 rfl rfl ?_
  obtain ⟨r12, ec11, h11⟩ := bd0_inv h9; clear h9
  refine b_callSi (rest := []) C dL_gives_16 (ctL_low ec11) mf_L_low ms_L_low kl_L_32 rfl ⟨rfl, rfl⟩ ⟨Nat.le_of_ble_eq_true rfl, Nat.le_of_ble_eq_true rfl⟩ ⟨Nat.zero_le _, Nat.zero_le _⟩ rfl (Nat.le_of_ble_eq_true rfl) ?_
  refine b_istore (lv' := [(6, .int r12), (5, .int r10), (0, .ref (ad 0)), (1, .int a1), (2, .int a2), (3, .int a3), (4, .int a4)]) C dL_gives_19 (by decide) rfl ?_
  refine b_iload C 6 dL_gives_21 rfl ?_
  refine b_iconst (v := (1 : Int32)) C dL_gives_23 (by decide) ?_
  refine b_iand C dL_gives_24 ?_
  refine b_if_ne (tgt := 32) C dL_gives_25 (by decide) (fun c13 => ?_) (fun c13 => ?_)
  · have h14 := ineg h11 c13; clear h11
    refine b_iload_n C 4 dL_gives_32 rfl rfl ?_
    refine b_iconst (v := (1 : Int32)) C dL_gives_33 (by decide) ?_
    refine b_icmp_le (tgt := 41) C dL_gives_34 (by decide) (fun c16 => ?_) (fun c16 => ?_)
    · have h17 := ipos h14 c16; clear h14
      refine b_iconst (v := (1 : Int32)) C dL_gives_41 (by decide) ?_
      exact b_sub [2, 3, 4, 5, 6, 1, 0] rfl (wL_gives_42 C X hr _ _ _ _ _ _ _ _ h17)
    have h18 := ineg h14 c16; clear h14
    refine b_iload_n C 4 dL_gives_37 rfl rfl ?_
    refine b_goto (tgt := 42) C dL_gives_38 (by decide) ?_
    exact b_sub [2, 3, 4, 5, 6, 1, 0] rfl (wL_gives_42 C X hr _ _ _ _ _ _ _ _ h18)
  have h15 := ipos h11 c13; clear h11
  refine b_iconst (v := (1 : Int32)) C dL_gives_28 (by decide) ?_
  refine b_goto (tgt := 42) C dL_gives_29 (by decide) ?_
  exact b_sub [2, 3, 4, 5, 6, 1, 0] rfl (wL_gives_42 C X hr _ _ _ _ _ _ _ _ h15)
