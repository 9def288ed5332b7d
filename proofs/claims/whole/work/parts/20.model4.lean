def rmX3_gather : Room := { frames := 3, cells := 0, slots := 0, locals := 81 }
def fX3_gather_39b (N : Nat) (q81 : St → Int32 → Int32 → Int32 → Int64 → Int32 → Option St) (q39 : St → Int32 → Int32 → Int32 → Int64 → Int32 → Option St) (σ32 : St) (x27 : Int32) (x28 : Int32) (x29 : Int32) (x30 : Int64) (x31 : Int32) : Option St :=
  if x31 ≤ (0 : Int32) then (
  q81 σ32 x27 x28 x29 x30 x31)
  else (
  if ((x31 - (1 : Int32)) < 0 ∨ 10 ≤ ((x31 - (1 : Int32))).toNatClampNeg) then none else
  if (gG σ32 5 ((x31 - (1 : Int32))).toNatClampNeg) ≤ x30 then (
  q81 σ32 x27 x28 x29 x30 x31)
  else (
  if ((x31 - (1 : Int32)) < 0 ∨ 10 ≤ ((x31 - (1 : Int32))).toNatClampNeg) then none else
  if (x31 < 0 ∨ 10 ≤ (x31).toNatClampNeg) then none else
  lt1 (sG σ32 5 (vp_updL (gG σ32 5) (x31).toNatClampNeg (gG σ32 5 ((x31 - (1 : Int32))).toNatClampNeg))) fun σ46 =>
  lt1 (x31 + (-1 : Int32)) fun x48 =>
  q39 σ46 x27 x28 x29 x30 x48))
def fX3_gather_39 (N : Nat) (q81 : St → Int32 → Int32 → Int32 → Int64 → Int32 → Option St) : Nat → St → Int32 → Int32 → Int32 → Int64 → Int32 → Option St
  | 0, _, _, _, _, _, _ => none
  | n + 1, σ, x27, x28, x29, x30, x31 => fX3_gather_39b N q81 (fX3_gather_39 N q81 n) σ x27 x28 x29 x30 x31
def fX3_gather_7b (N : Nat) (q106 : St → Option St) (q7 : St → Int32 → Int32 → Int32 → Option St) (σ9 : St) (x6 : Int32) (x7 : Int32) (x8 : Int32) : Option St :=
  if (gI σ9 0) ≤ x8 then (
  q106 σ9)
  else (
  bd2 (fX3_isSent σ9 x8 x6) fun r16 σ15 =>
  if r16 = (0 : Int32) then (
  lt1 (x8 + (1 : Int32)) fun x20 =>
  q7 σ15 x6 x7 x20)
  else (
  bd2 (fX3_sent N σ15 x8 x6 x7) fun r24 σ23 =>
  lt1 (gI σ23 7) fun x25 =>
  fX3_gather_39 N (fun σ55 x50 x51 x52 x53 x54 =>
 if (x54 < 0 ∨ 10 ≤ (x54).toNatClampNeg) then none else
  lt1 (sG σ55 5 (vp_updL (gG σ55 5) (x54).toNatClampNeg x53)) fun σ59 =>
  lt1 (sI σ59 7 ((gI σ59 7) + (1 : Int32))) fun σ61 =>
  lt1 (x52 + (1 : Int32)) fun x63 =>
  q7 σ61 x50 x51 x63) N σ23 x6 x7 x8 r24 x25))
def fX3_gather_7 (N : Nat) (q106 : St → Option St) : Nat → St → Int32 → Int32 → Int32 → Option St
  | 0, _, _, _, _ => none
  | n + 1, σ, x6, x7, x8 => fX3_gather_7b N q106 (fX3_gather_7 N q106 n) σ x6 x7 x8
def fX3_gather (N : Nat) (σ : St) (a1 : Int32) (a2 : Int32) : Option St :=
  lt1 (sI σ 7 (0 : Int32)) fun σ4 =>
  fX3_gather_7 N (fun σ65 =>
 some σ65) N σ4 a1 a2 (0 : Int32)
theorem wX3_gather_39 {l : Launch} {p : Program} {e : Env} {s : State} {m : MethodId} {args : Array Value} {below : List Frame} {meth : Method} {c : Code} {D : va_G} {A : Nat → Prop} {ad : Nat → Nat} {ca : Nat → ClassId} {σf : St} (C : Cb p s m args meth c RX3 cX3_gather 7) (X : Cx s D A (wM ad ca) (tyM ca)) (hr : meth.sig.returnType = none) {N : Nat} {q81 : St → Int32 → Int32 → Int32 → Int64 → Int32 → Option St} (hq81 : ∀ (σ : St) (y0 : Int32) (y1 : Int32) (y2 : Int32) (y3 : Int64) (y4 : Int32), q81 σ y0 y1 y2 y3 y4 = some σf → bW p l e rmX3_gather s m args below meth c 0 0 (MQ below (Qw D (wM ad ca) σf none A) args s 0 0 A) 7 (wd D A (wM ad ca) s σ) 81 [(0, .ref (ad 0)), (1, .int y0), (2, .int y1), (3, .int y2), (4, .long y3), (6, .int y4)] []) : ∀ n : Nat, ∀ (σ : St) (y0 : Int32) (y1 : Int32) (y2 : Int32) (y3 : Int64) (y4 : Int32), fX3_gather_39 N q81 n σ y0 y1 y2 y3 y4 = some σf → bW p l e rmX3_gather s m args below meth c 0 0 (MQ below (Qw D (wM ad ca) σf none A) args s 0 0 A) 7 (wd D A (wM ad ca) s σ) 39 [(0, .ref (ad 0)), (1, .int y0), (2, .int y1), (3, .int y2), (4, .long y3), (6, .int y4)] [] := by
  intro n
  induction n with
  | zero => intro σ32 x27 x28 x29 x30 x31 h33; exact nn h33
  | succ n hq39 =>
    intro σ32 x27 x28 x29 x30 x31 h33
    replace h33 : fX3_gather_39b N q81 (fX3_gather_39 N q81 n) σ32 x27 x28 x29 x30 x31 = some σf := h33
    refine b_iload C 5 dX3_gather_39 rfl ?_
    refine b_if_le (tgt := 81) C dX3_gather_41 (by decide) (fun c34 => ?_) (fun c34 => ?_)
    · have h35 := ipos h33 c34; clear h33
      exact b_sub [0, 1, 2, 3, 4, 5] rfl (hq81 _ _ _ _ _ _ h35)
    have h36 := ineg h33 c34; clear h33
    refine b_aload_n C 0 dX3_gather_44 rfl rfl ?_
    refine gX3_36 C X dX3_gather_45 ?_
    refine b_iload C 5 dX3_gather_48 rfl ?_
    refine b_iconst (v := (1 : Int32)) C dX3_gather_50 (by decide) ?_
    refine b_isub C dX3_gather_51 ?_
    obtain ⟨g38, h37⟩ := gdn h36; clear h36
    refine lM_9 C X g38 dX3_gather_52 ?_
    refine b_lload C 4 dX3_gather_53 rfl ?_
    refine b_lc_le (tgt := 81) C dX3_gather_55 dX3_gather_56 (by decide) (fun c39 => ?_) (fun c39 => ?_)
    · have h40 := ipos h37 c39; clear h37
      exact b_sub [0, 1, 2, 3, 4, 5] rfl (hq81 _ _ _ _ _ _ h40)
    have h41 := ineg h37 c39; clear h37
    refine b_aload_n C 0 dX3_gather_59 rfl rfl ?_
    refine gX3_36 C X dX3_gather_60 ?_
    refine b_iload C 5 dX3_gather_63 rfl ?_
    refine b_aload_n C 0 dX3_gather_65 rfl rfl ?_
    refine gX3_36 C X dX3_gather_66 ?_
    refine b_iload C 5 dX3_gather_69 rfl ?_
    refine b_iconst (v := (1 : Int32)) C dX3_gather_71 (by decide) ?_
    refine b_isub C dX3_gather_72 ?_
    obtain ⟨g43, h42⟩ := gdn h41; clear h41
    refine lM_9 C X g43 dX3_gather_73 ?_
    obtain ⟨g45, h44⟩ := gdn h42; clear h42
    refine aM_9 C X g45 dX3_gather_74 ?_
    obtain ⟨σ46, eσ46, h47⟩ := lt1_inv h44; clear h44
    refine b_nmS eσ46 ?_
    obtain ⟨x48, ex48, h49⟩ := lt1_inv h47; clear h47
    refine b_iinc (v := x48) (lv' := [(6, .int x48), (0, .ref (ad 0)), (1, .int x27), (2, .int x28), (3, .int x29), (4, .long x30)]) C 5 dX3_gather_75 rfl (by rw [ex48]; rfl) (by decide) rfl ?_
    refine b_goto (tgt := 39) C dX3_gather_78 (by decide) ?_
    exact b_sub [1, 2, 3, 4, 5, 0] rfl (hq39 _ _ _ _ _ _ h49)
theorem wX3_gather_7 {l : Launch} {p : Program} {e : Env} {s : State} {m : MethodId} {args : Array Value} {below : List Frame} {meth : Method} {c : Code} {D : va_G} {A : Nat → Prop} {ad : Nat → Nat} {ca : Nat → ClassId} {σf : St} (C : Cb p s m args meth c RX3 cX3_gather 7) (X : Cx s D A (wM ad ca) (tyM ca)) (hr : meth.sig.returnType = none) {N : Nat} {q106 : St → Option St} (hq106 : ∀ (σ : St), q106 σ = some σf → bW p l e rmX3_gather s m args below meth c 0 0 (MQ below (Qw D (wM ad ca) σf none A) args s 0 0 A) 7 (wd D A (wM ad ca) s σ) 106 [] []) : ∀ n : Nat, ∀ (σ : St) (y0 : Int32) (y1 : Int32) (y2 : Int32), fX3_gather_7 N q106 n σ y0 y1 y2 = some σf → bW p l e rmX3_gather s m args below meth c 0 0 (MQ below (Qw D (wM ad ca) σf none A) args s 0 0 A) 7 (wd D A (wM ad ca) s σ) 7 [(0, .ref (ad 0)), (1, .int y0), (2, .int y1), (3, .int y2)] [] := by
  intro n
  induction n with
  | zero => intro σ9 x6 x7 x8 h10; exact nn h10
  | succ n hq7 =>
    intro σ9 x6 x7 x8 h10
    replace h10 : fX3_gather_7b N q106 (fX3_gather_7 N q106 n) σ9 x6 x7 x8 = some σf := h10
    refine b_iload_n C 3 dX3_gather_7 rfl rfl ?_
    refine b_aload_n C 0 dX3_gather_8 rfl rfl ?_
    refine gX3_50 C X dX3_gather_9 ?_
    refine b_icmp_ge (tgt := 106) C dX3_gather_12 (by decide) (fun c11 => ?_) (fun c11 => ?_)
    · have h12 := ipos h10 c11; clear h10
      exact b_sub [] rfl (hq106 _ h12)
    have h13 := ineg h10 c11; clear h10
    refine b_aload_n C 0 dX3_gather_15 rfl rfl ?_
    refine b_iload_n C 3 dX3_gather_16 rfl rfl ?_
    refine b_iload_n C 1 dX3_gather_17 rfl rfl ?_
    obtain ⟨r16, σ15, ec14, h14⟩ := bd2_inv h13; clear h13
    refine b_callWi (rest := []) C (sameM ad ca) X dX3_gather_18 (ctX3_isSent ec14) mf_X3_isSent mi_X3_isSent kl_X3_162 0 rfl rfl rfl rfl ⟨rfl, rfl⟩ ⟨Nat.le_of_ble_eq_true rfl, Nat.le_of_ble_eq_true rfl⟩ ⟨Nat.zero_le _, Nat.zero_le _⟩ rfl (Nat.le_of_ble_eq_true rfl) ?_
    refine b_if_eq (tgt := 100) C dX3_gather_21 (by decide) (fun c17 => ?_) (fun c17 => ?_)
    · have h18 := ipos h14 c17; clear h14
      obtain ⟨x20, ex20, h21⟩ := lt1_inv h18; clear h18
      refine b_iinc (v := x20) (lv' := [(3, .int x20), (0, .ref (ad 0)), (1, .int x6), (2, .int x7)]) C 3 dX3_gather_100 rfl (by rw [ex20]; rfl) (by decide) rfl ?_
      refine b_goto (tgt := 7) C dX3_gather_103 (by decide) ?_
      exact b_sub [1, 2, 3, 0] rfl (hq7 _ _ _ _ h21)
    have h19 := ineg h14 c17; clear h14
    refine b_aload_n C 0 dX3_gather_24 rfl rfl ?_
    refine b_iload_n C 3 dX3_gather_25 rfl rfl ?_
    refine b_iload_n C 1 dX3_gather_26 rfl rfl ?_
    refine b_iload_n C 2 dX3_gather_27 rfl rfl ?_
    obtain ⟨r24, σ23, ec22, h22⟩ := bd2_inv h19; clear h19
    refine b_callWl (rest := []) C (sameM ad ca) X dX3_gather_28 (ctX3_sent ec22) mf_X3_sent mi_X3_sent kl_X3_165 0 rfl rfl rfl rfl ⟨rfl, rfl⟩ ⟨Nat.le_of_ble_eq_true rfl, Nat.le_of_ble_eq_true rfl⟩ ⟨Nat.zero_le _, Nat.zero_le _⟩ rfl (Nat.le_of_ble_eq_true rfl) ?_
    refine b_lstore (lv' := [(4, .long r24), (0, .ref (ad 0)), (1, .int x6), (2, .int x7), (3, .int x8)]) C dX3_gather_31 (by decide) rfl ?_
    refine b_aload_n C 1 dX3_gather_33 rfl rfl ?_
    refine gX3_159 C X dX3_gather_34 ?_
    obtain ⟨x25, ex25, h26⟩ := lt1_inv h22; clear h22
    refine b_nmI ex25 ?_
    refine b_istore (lv' := [(6, .int x25), (4, .long r24), (0, .ref (ad 0)), (1, .int x6), (2, .int x7), (3, .int x8)]) C dX3_gather_37 (by decide) rfl ?_
    refine b_sub [2, 3, 4, 5, 1, 0] rfl (wX3_gather_39 C X hr (fun σ55 x50 x51 x52 x53 x54 h56 => ?_) _ _ _ _ _ _ _ h26)
    refine b_aload_n C 0 dX3_gather_81 rfl rfl ?_
    refine gX3_36 C X dX3_gather_82 ?_
    refine b_iload C 5 dX3_gather_85 rfl ?_
    refine b_lload C 4 dX3_gather_87 rfl ?_
    obtain ⟨g58, h57⟩ := gdn h56; clear h56
    refine aM_9 C X g58 dX3_gather_89 ?_
    obtain ⟨σ59, eσ59, h60⟩ := lt1_inv h57; clear h57
    refine b_nmS eσ59 ?_
    refine b_aload_n C 0 dX3_gather_90 rfl rfl ?_
    refine b_dup C dX3_gather_91 rfl ?_
    refine gX3_159 C X dX3_gather_92 ?_
    refine b_iconst (v := (1 : Int32)) C dX3_gather_95 (by decide) ?_
    refine b_iadd C dX3_gather_96 ?_
    refine pX3_159 C X dX3_gather_97 ?_
    obtain ⟨σ61, eσ61, h62⟩ := lt1_inv h60; clear h60
    refine b_nmS eσ61 ?_
    obtain ⟨x63, ex63, h64⟩ := lt1_inv h62; clear h62
    refine b_iinc (v := x63) (lv' := [(3, .int x63), (0, .ref (ad 0)), (1, .int x50), (2, .int x51), (4, .long x53), (6, .int x54)]) C 3 dX3_gather_100 rfl (by rw [ex63]; rfl) (by decide) rfl ?_
    refine b_goto (tgt := 7) C dX3_gather_103 (by decide) ?_
    exact b_sub [1, 2, 3, 0] rfl (hq7 _ _ _ _ h64)
theorem ctX3_gather {l : Launch} {ad : Nat → Nat} {ca : Nat → ClassId} {N : Nat} {σ : St} {a1 : Int32} {a2 : Int32} {σf : St} (h : fX3_gather N σ a1 a2 = some σf) : Cw l yX3_gather cX3_gather 7 none rmX3_gather [.ref (ad 0), .int a1, .int a2] (wM ad ca) (tyM ca) σ none σf := by
  refine Cw_of (by decide) (sameM ad ca) (Nat.le_of_ble_eq_true rfl) ?_
  intro p e s m args below meth c D A C X hr
  replace C : Cb p s m args meth c RX3 cX3_gather 7 := C
  have h3 := h; clear h
  refine b_sub (lv' := [(0, .ref (ad 0)), (1, .int a1), (2, .int a2)]) [0, 1, 2] rfl ?_
  refine b_aload_n C 0 dX3_gather_0 rfl rfl ?_
  refine b_iconst (v := (0 : Int32)) C dX3_gather_1 (by decide) ?_
  refine pX3_159 C X dX3_gather_2 ?_
  obtain ⟨σ4, eσ4, h5⟩ := lt1_inv h3; clear h3
  refine b_nmS eσ4 ?_
  refine b_iconst (v := (0 : Int32)) C dX3_gather_5 (by decide) ?_
  refine b_istore_n (lv' := [(3, .int (0 : Int32)), (0, .ref (ad 0)), (1, .int a1), (2, .int a2)]) C dX3_gather_6 rfl (by decide) rfl ?_
  refine b_sub [1, 2, 3, 0] rfl (wX3_gather_7 C X hr (fun σ65 h66 => ?_) _ _ _ _ _ h5)
  obtain rfl := so1 h66
  exact b_vret C dX3_gather_106 hr
def rmX3_combined : Room := { frames := 1, cells := 0, slots := 0, locals := 25 }
def fX3_combined_124b (N : Nat) (q155 : St → Int64 → Int32 → Option (Int64 × St)) (q124 : St → Int32 → Int32 → Int64 → Int32 → Int32 → Option (Int64 × St)) (σ31 : St) (x26 : Int32) (x27 : Int32) (x28 : Int64) (x29 : Int32) (x30 : Int32) : Option (Int64 × St) :=
  if x26 < x30 then (
  q155 σ31 x28 x29)
  else (
  if (x30 < 0 ∨ 10 ≤ (x30).toNatClampNeg) then none else
  lt1 (x28 + (gG σ31 5 (x30).toNatClampNeg)) fun x38 =>
  lt1 (x29 + (1 : Int32)) fun x40 =>
  lt1 (x30 + x27) fun x42 =>
  q124 σ31 x26 x27 x38 x40 x42)
def fX3_combined_124 (N : Nat) (q155 : St → Int64 → Int32 → Option (Int64 × St)) : Nat → St → Int32 → Int32 → Int64 → Int32 → Int32 → Option (Int64 × St)
  | 0, _, _, _, _, _, _ => none
  | n + 1, σ, x26, x27, x28, x29, x30 => fX3_combined_124b N q155 (fX3_combined_124 N q155 n) σ x26 x27 x28 x29 x30
def fX3_combined_113 (N : Nat) (σ24 : St) (x21 : Int32) (x22 : Int32) (x23 : Int32) : Option (Int64 × St) :=
  fX3_combined_124 N (fun σ46 x44 x45 =>
 bd0 (fX3_down x44 (x45.toInt64)) fun r49 =>
  some (r49, σ46)) N σ24 x22 x23 (0 : Int64) (0 : Int32) x21
def fX3_combined_112 (N : Nat) (σ19 : St) (x17 : Int32) (x18 : Int32) : Option (Int64 × St) :=
  fX3_combined_113 N σ19 x17 x18 (1 : Int32)
def fX3_combined (N : Nat) (σ : St) : Option (Int64 × St) :=
  lt1 (gI σ 1) fun x2 =>
  lt1 (((gI σ 7) - (1 : Int32)) - (gI σ 1)) fun x4 =>
  lt1 ((x4 - x2) + (1 : Int32)) fun x6 =>
  if (gI σ 2) = (1 : Int32) then (
  if (x2 < 0 ∨ 10 ≤ (x2).toNatClampNeg) then none else
  if (x4 < 0 ∨ 10 ≤ (x4).toNatClampNeg) then none else
  bd0 (fX3_down ((gG σ 5 (x2).toNatClampNeg) + (gG σ 5 (x4).toNatClampNeg)) (2 : Int64)) fun r64 =>
  some (r64, σ))
  else (
  if (gI σ 2) = (2 : Int32) then (
  if ((x2 + ((x6 - (1 : Int32)) / (2 : Int32))) < 0 ∨ 10 ≤ ((x2 + ((x6 - (1 : Int32)) / (2 : Int32)))).toNatClampNeg) then none else
  if ((x2 + (x6 / (2 : Int32))) < 0 ∨ 10 ≤ ((x2 + (x6 / (2 : Int32)))).toNatClampNeg) then none else
  bd0 (fX3_down ((gG σ 5 ((x2 + ((x6 - (1 : Int32)) / (2 : Int32)))).toNatClampNeg) + (gG σ 5 ((x2 + (x6 / (2 : Int32)))).toNatClampNeg)) (2 : Int64)) fun r58 =>
  some (r58, σ))
  else (
  if (gI σ 2) = (3 : Int32) then (
  if (gI σ 1) ≤ (1 : Int32) then (
  fX3_combined_112 N σ x2 x4)
  else (
  fX3_combined_113 N σ x2 x4 (gI σ 1)))
  else (
  fX3_combined_112 N σ x2 x4)))
theorem wX3_combined_124 {l : Launch} {p : Program} {e : Env} {s : State} {m : MethodId} {args : Array Value} {below : List Frame} {meth : Method} {c : Code} {D : va_G} {A : Nat → Prop} {ad : Nat → Nat} {ca : Nat → ClassId} {rf : Int64} {σf : St} (C : Cb p s m args meth c RX3 cX3_combined 9) (X : Cx s D A (wM ad ca) (tyM ca)) (hr : meth.sig.returnType = (some .long)) {N : Nat} {q155 : St → Int64 → Int32 → Option (Int64 × St)} (hq155 : ∀ (σ : St) (y0 : Int64) (y1 : Int32), q155 σ y0 y1 = some (rf, σf) → bW p l e rmX3_combined s m args below meth c 0 0 (MQ below (Qw D (wM ad ca) σf (some (.long rf)) A) args s 0 0 A) 9 (wd D A (wM ad ca) s σ) 155 [(5, .long y0), (7, .int y1)] []) : ∀ n : Nat, ∀ (σ : St) (y0 : Int32) (y1 : Int32) (y2 : Int64) (y3 : Int32) (y4 : Int32), fX3_combined_124 N q155 n σ y0 y1 y2 y3 y4 = some (rf, σf) → bW p l e rmX3_combined s m args below meth c 0 0 (MQ below (Qw D (wM ad ca) σf (some (.long rf)) A) args s 0 0 A) 9 (wd D A (wM ad ca) s σ) 124 [(0, .ref (ad 0)), (2, .int y0), (4, .int y1), (5, .long y2), (7, .int y3), (8, .int y4)] [] := by
  intro n
  induction n with
  | zero => intro σ31 x26 x27 x28 x29 x30 h32; exact nn h32
  | succ n hq124 =>
    intro σ31 x26 x27 x28 x29 x30 h32
    replace h32 : fX3_combined_124b N q155 (fX3_combined_124 N q155 n) σ31 x26 x27 x28 x29 x30 = some (rf, σf) := h32
    refine b_iload C 5 dX3_combined_124 rfl ?_
    refine b_iload_n C 1 dX3_combined_126 rfl rfl ?_
    refine b_icmp_gt (tgt := 155) C dX3_combined_127 (by decide) (fun c33 => ?_) (fun c33 => ?_)
    · have h34 := ipos h32 c33; clear h32
      exact b_sub [3, 4] rfl (hq155 _ _ _ h34)
    have h35 := ineg h32 c33; clear h32
    refine b_lload C 3 dX3_combined_130 rfl ?_
    refine b_aload_n C 0 dX3_combined_132 rfl rfl ?_
    refine gX3_36 C X dX3_combined_133 ?_
    refine b_iload C 5 dX3_combined_136 rfl ?_
    obtain ⟨g37, h36⟩ := gdn h35; clear h35
    refine lM_9 C X g37 dX3_combined_138 ?_
    refine b_ladd C dX3_combined_139 ?_
    obtain ⟨x38, ex38, h39⟩ := lt1_inv h36; clear h36
    refine b_nmJ ex38 ?_
    refine b_lstore (lv' := [(5, .long x38), (0, .ref (ad 0)), (2, .int x26), (4, .int x27), (7, .int x29), (8, .int x30)]) C dX3_combined_140 (by decide) rfl ?_
    obtain ⟨x40, ex40, h41⟩ := lt1_inv h39; clear h39
    refine b_iinc (v := x40) (lv' := [(7, .int x40), (5, .long x38), (0, .ref (ad 0)), (2, .int x26), (4, .int x27), (8, .int x30)]) C 4 dX3_combined_142 rfl (by rw [ex40]; rfl) (by decide) rfl ?_
    refine b_iload C 5 dX3_combined_145 rfl ?_
    refine b_iload C 4 dX3_combined_147 rfl ?_
    refine b_iadd C dX3_combined_149 ?_
    obtain ⟨x42, ex42, h43⟩ := lt1_inv h41; clear h41
    refine b_nmI ex42 ?_
    refine b_istore (lv' := [(8, .int x42), (7, .int x40), (5, .long x38), (0, .ref (ad 0)), (2, .int x26), (4, .int x27)]) C dX3_combined_150 (by decide) rfl ?_
    refine b_goto (tgt := 124) C dX3_combined_152 (by decide) ?_
    exact b_sub [3, 4, 5, 2, 1, 0] rfl (hq124 _ _ _ _ _ _ h43)
theorem wX3_combined_113 {l : Launch} {p : Program} {e : Env} {s : State} {m : MethodId} {args : Array Value} {below : List Frame} {meth : Method} {c : Code} {D : va_G} {A : Nat → Prop} {ad : Nat → Nat} {ca : Nat → ClassId} {rf : Int64} {σf : St} (C : Cb p s m args meth c RX3 cX3_combined 9) (X : Cx s D A (wM ad ca) (tyM ca)) (hr : meth.sig.returnType = (some .long)) {N : Nat} : ∀ (σ : St) (y0 : Int32) (y1 : Int32) (y2 : Int32), fX3_combined_113 N σ y0 y1 y2 = some (rf, σf) → bW p l e rmX3_combined s m args below meth c 0 0 (MQ below (Qw D (wM ad ca) σf (some (.long rf)) A) args s 0 0 A) 9 (wd D A (wM ad ca) s σ) 113 [(0, .ref (ad 0)), (1, .int y0), (2, .int y1)] [.int y2] := by
  intro σ24 x21 x22 x23 h25
  refine b_istore (lv' := [(4, .int x23), (0, .ref (ad 0)), (1, .int x21), (2, .int x22)]) C dX3_combined_113 (by decide) rfl ?_
  refine b_lconst (v := (0 : Int64)) C dX3_combined_115 (by decide) ?_
  refine b_lstore (lv' := [(5, .long (0 : Int64)), (4, .int x23), (0, .ref (ad 0)), (1, .int x21), (2, .int x22)]) C dX3_combined_116 (by decide) rfl ?_
  refine b_iconst (v := (0 : Int32)) C dX3_combined_118 (by decide) ?_
  refine b_istore (lv' := [(7, .int (0 : Int32)), (5, .long (0 : Int64)), (4, .int x23), (0, .ref (ad 0)), (1, .int x21), (2, .int x22)]) C dX3_combined_119 (by decide) rfl ?_
  refine b_iload_n C 4 dX3_combined_121 rfl rfl ?_
  refine b_istore (lv' := [(8, .int x21), (7, .int (0 : Int32)), (5, .long (0 : Int64)), (4, .int x23), (0, .ref (ad 0)), (1, .int x21), (2, .int x22)]) C dX3_combined_122 (by decide) rfl ?_
  refine b_sub [4, 6, 3, 2, 1, 0] rfl (wX3_combined_124 C X hr (fun σ46 x44 x45 h47 => ?_) _ _ _ _ _ _ _ h25)
  refine b_lload C 0 dX3_combined_155 rfl ?_
  refine b_iload C 1 dX3_combined_157 rfl ?_
  refine b_i2l C dX3_combined_159 ?_
  obtain ⟨r49, ec48, h48⟩ := bd0_inv h47; clear h47
  refine b_callSl (rest := []) C dX3_combined_160 (ctX3_down ec48) mf_X3_down ms_X3_down kl_X3_168 rfl ⟨rfl, rfl⟩ ⟨Nat.le_of_ble_eq_true rfl, Nat.le_of_ble_eq_true rfl⟩ ⟨Nat.zero_le _, Nat.zero_le _⟩ rfl (Nat.le_of_ble_eq_true rfl) ?_
  obtain ⟨rfl, rfl⟩ := so2 h48
  exact b_lret C dX3_combined_163 hr
theorem wX3_combined_112 {l : Launch} {p : Program} {e : Env} {s : State} {m : MethodId} {args : Array Value} {below : List Frame} {meth : Method} {c : Code} {D : va_G} {A : Nat → Prop} {ad : Nat → Nat} {ca : Nat → ClassId} {rf : Int64} {σf : St} (C : Cb p s m args meth c RX3 cX3_combined 9) (X : Cx s D A (wM ad ca) (tyM ca)) (hr : meth.sig.returnType = (some .long)) {N : Nat} : ∀ (σ : St) (y0 : Int32) (y1 : Int32), fX3_combined_112 N σ y0 y1 = some (rf, σf) → bW p l e rmX3_combined s m args below meth c 0 0 (MQ below (Qw D (wM ad ca) σf (some (.long rf)) A) args s 0 0 A) 9 (wd D A (wM ad ca) s σ) 112 [(0, .ref (ad 0)), (1, .int y0), (2, .int y1)] [] := by
  intro σ19 x17 x18 h20
  refine b_iconst (v := (1 : Int32)) C dX3_combined_112 (by decide) ?_
  exact b_sub [0, 1, 2] rfl (wX3_combined_113 C X hr _ _ _ _ h20)
theorem ctX3_combined {l : Launch} {ad : Nat → Nat} {ca : Nat → ClassId} {N : Nat} {σ : St} {rf : Int64} {σf : St} (h : fX3_combined N σ = some (rf, σf)) : Cw l yX3_combined cX3_combined 9 (some .long) rmX3_combined [.ref (ad 0)] (wM ad ca) (tyM ca) σ (some (.long rf)) σf := by
  refine Cw_of (by decide) (sameM ad ca) (Nat.le_of_ble_eq_true rfl) ?_
  intro p e s m args below meth c D A C X hr
  replace C : Cb p s m args meth c RX3 cX3_combined 9 := C
  have h1 := h; clear h
  refine b_sub (lv' := [(0, .ref (ad 0))]) [0] rfl ?_
  refine b_aload_n C 0 dX3_combined_0 rfl rfl ?_
  refine gX3_54 C X dX3_combined_1 ?_
  obtain ⟨x2, ex2, h3⟩ := lt1_inv h1; clear h1
  refine b_nmI ex2 ?_
  refine b_istore_n (lv' := [(1, .int x2), (0, .ref (ad 0))]) C dX3_combined_4 rfl (by decide) rfl ?_
  refine b_aload_n C 1 dX3_combined_5 rfl rfl ?_
  refine gX3_159 C X dX3_combined_6 ?_
  refine b_iconst (v := (1 : Int32)) C dX3_combined_9 (by decide) ?_
  refine b_isub C dX3_combined_10 ?_
  refine b_aload_n C 1 dX3_combined_11 rfl rfl ?_
  refine gX3_54 C X dX3_combined_12 ?_
  refine b_isub C dX3_combined_15 ?_
  obtain ⟨x4, ex4, h5⟩ := lt1_inv h3; clear h3
  refine b_nmI ex4 ?_
  refine b_istore_n (lv' := [(2, .int x4), (1, .int x2), (0, .ref (ad 0))]) C dX3_combined_16 rfl (by decide) rfl ?_
  refine b_iload_n C 0 dX3_combined_17 rfl rfl ?_
  refine b_iload_n C 1 dX3_combined_18 rfl rfl ?_
  refine b_isub C dX3_combined_19 ?_
  refine b_iconst (v := (1 : Int32)) C dX3_combined_20 (by decide) ?_
  refine b_iadd C dX3_combined_21 ?_
  obtain ⟨x6, ex6, h7⟩ := lt1_inv h5; clear h5
  refine b_nmI ex6 ?_
  refine b_istore_n (lv' := [(3, .int x6), (2, .int x4), (1, .int x2), (0, .ref (ad 0))]) C dX3_combined_22 rfl (by decide) rfl ?_
  refine b_aload_n C 3 dX3_combined_23 rfl rfl ?_
  refine gX3_61 C X dX3_combined_24 ?_
  refine b_iconst (v := (1 : Int32)) C dX3_combined_27 (by decide) ?_
  refine b_icmp_ne (tgt := 51) C dX3_combined_28 (by decide) (fun c8 => ?_) (fun c8 => ?_)
  · have h9 := ineg h7 c8; clear h7
    refine b_aload_n C 3 dX3_combined_51 rfl rfl ?_
    refine gX3_61 C X dX3_combined_52 ?_
    refine b_iconst (v := (2 : Int32)) C dX3_combined_55 (by decide) ?_
    refine b_icmp_ne (tgt := 89) C dX3_combined_56 (by decide) (fun c11 => ?_) (fun c11 => ?_)
    · have h12 := ineg h9 c11; clear h9
      refine b_aload_n C 3 dX3_combined_89 rfl rfl ?_
      refine gX3_61 C X dX3_combined_90 ?_
      refine b_iconst (v := (3 : Int32)) C dX3_combined_93 (by decide) ?_
      refine b_icmp_ne (tgt := 112) C dX3_combined_94 (by decide) (fun c14 => ?_) (fun c14 => ?_)
      · have h15 := ineg h12 c14; clear h12
        exact b_sub [3, 2, 1] rfl (wX3_combined_112 C X hr _ _ _ h15)
      have h16 := ipos h12 c14; clear h12
      refine b_aload_n C 3 dX3_combined_97 rfl rfl ?_
      refine gX3_54 C X dX3_combined_98 ?_
      refine b_iconst (v := (1 : Int32)) C dX3_combined_101 (by decide) ?_
      refine b_icmp_le (tgt := 112) C dX3_combined_102 (by decide) (fun c50 => ?_) (fun c50 => ?_)
      · have h51 := ipos h16 c50; clear h16
        exact b_sub [3, 2, 1] rfl (wX3_combined_112 C X hr _ _ _ h51)
      have h52 := ineg h16 c50; clear h16
      refine b_aload_n C 3 dX3_combined_105 rfl rfl ?_
      refine gX3_54 C X dX3_combined_106 ?_
      refine b_goto (tgt := 113) C dX3_combined_109 (by decide) ?_
      exact b_sub [3, 2, 1] rfl (wX3_combined_113 C X hr _ _ _ _ h52)
    have h13 := ipos h9 c11; clear h9
    refine b_aload_n C 3 dX3_combined_59 rfl rfl ?_
    refine gX3_36 C X dX3_combined_60 ?_
    refine b_iload_n C 2 dX3_combined_63 rfl rfl ?_
    refine b_iload_n C 0 dX3_combined_64 rfl rfl ?_
    refine b_iconst (v := (1 : Int32)) C dX3_combined_65 (by decide) ?_
    refine b_isub C dX3_combined_66 ?_
    refine b_iconst (v := (2 : Int32)) C dX3_combined_67 (by decide) ?_
    refine b_idiv C dX3_combined_68 (by decide) ?_
    refine b_iadd C dX3_combined_69 ?_
    obtain ⟨g54, h53⟩ := gdn h13; clear h13
    refine lM_9 C X g54 dX3_combined_70 ?_
    refine b_aload_n C 3 dX3_combined_71 rfl rfl ?_
    refine gX3_36 C X dX3_combined_72 ?_
    refine b_iload_n C 2 dX3_combined_75 rfl rfl ?_
    refine b_iload_n C 0 dX3_combined_76 rfl rfl ?_
    refine b_iconst (v := (2 : Int32)) C dX3_combined_77 (by decide) ?_
    refine b_idiv C dX3_combined_78 (by decide) ?_
    refine b_iadd C dX3_combined_79 ?_
    obtain ⟨g56, h55⟩ := gdn h53; clear h53
    refine lM_9 C X g56 dX3_combined_80 ?_
    refine b_ladd C dX3_combined_81 ?_
    refine b_ldc2 (v := (2 : Int64)) C dX3_combined_82 kc_X3_67 ?_
    obtain ⟨r58, ec57, h57⟩ := bd0_inv h55; clear h55
    refine b_callSl (rest := []) C dX3_combined_85 (ctX3_down ec57) mf_X3_down ms_X3_down kl_X3_168 rfl ⟨rfl, rfl⟩ ⟨Nat.le_of_ble_eq_true rfl, Nat.le_of_ble_eq_true rfl⟩ ⟨Nat.zero_le _, Nat.zero_le _⟩ rfl (Nat.le_of_ble_eq_true rfl) ?_
    obtain ⟨rfl, rfl⟩ := so2 h57
    exact b_lret C dX3_combined_88 hr
  have h10 := ipos h7 c8; clear h7
  refine b_aload_n C 3 dX3_combined_31 rfl rfl ?_
  refine gX3_36 C X dX3_combined_32 ?_
  refine b_iload_n C 2 dX3_combined_35 rfl rfl ?_
  obtain ⟨g60, h59⟩ := gdn h10; clear h10
  refine lM_9 C X g60 dX3_combined_36 ?_
  refine b_aload_n C 3 dX3_combined_37 rfl rfl ?_
  refine gX3_36 C X dX3_combined_38 ?_
  refine b_iload_n C 1 dX3_combined_41 rfl rfl ?_
  obtain ⟨g62, h61⟩ := gdn h59; clear h59
  refine lM_9 C X g62 dX3_combined_42 ?_
  refine b_ladd C dX3_combined_43 ?_
  refine b_ldc2 (v := (2 : Int64)) C dX3_combined_44 kc_X3_67 ?_
  obtain ⟨r64, ec63, h63⟩ := bd0_inv h61; clear h61
  refine b_callSl (rest := []) C dX3_combined_47 (ctX3_down ec63) mf_X3_down ms_X3_down kl_X3_168 rfl ⟨rfl, rfl⟩ ⟨Nat.le_of_ble_eq_true rfl, Nat.le_of_ble_eq_true rfl⟩ ⟨Nat.zero_le _, Nat.zero_le _⟩ rfl (Nat.le_of_ble_eq_true rfl) ?_
  obtain ⟨rfl, rfl⟩ := so2 h63
  exact b_lret C dX3_combined_50 hr
def rmX3_round : Room := { frames := 4, cells := 0, slots := 0, locals := 107 }
def fX3_round_49 (N : Nat) (q12 : St → Int32 → Int32 → Option St) (σ27 : St) (x24 : Int32) (x25 : Int32) (x26 : Int32) : Option St :=
  if x26 = (0 : Int32) then (
  bd2 (fX3_combined N σ27) fun r34 σ33 =>
  if ((((((20 : Int32) * (gI σ27 3)) + (20 : Int32)) + ((2 : Int32) * x24)) + x25) < 0 ∨ 1220 ≤ ((((((20 : Int32) * (gI σ27 3)) + (20 : Int32)) + ((2 : Int32) * x24)) + x25)).toNatClampNeg) then none else
  lt1 (sG σ33 4 (vp_updL (gG σ33 4) ((((((20 : Int32) * (gI σ27 3)) + (20 : Int32)) + ((2 : Int32) * x24)) + x25)).toNatClampNeg r34)) fun σ37 =>
  lt1 (x25 + (1 : Int32)) fun x39 =>
  q12 σ37 x24 x39)
  else (
  bd2 (fX3_end σ27 x24 (gI σ27 3) x25) fun r43 σ42 =>
  if ((((((20 : Int32) * (gI σ27 3)) + (20 : Int32)) + ((2 : Int32) * x24)) + x25) < 0 ∨ 1220 ≤ ((((((20 : Int32) * (gI σ27 3)) + (20 : Int32)) + ((2 : Int32) * x24)) + x25)).toNatClampNeg) then none else
  lt1 (sG σ42 4 (vp_updL (gG σ42 4) ((((((20 : Int32) * (gI σ27 3)) + (20 : Int32)) + ((2 : Int32) * x24)) + x25)).toNatClampNeg r43)) fun σ46 =>
  lt1 (x25 + (1 : Int32)) fun x48 =>
  q12 σ46 x24 x48)
def fX3_round_44 (N : Nat) (q12 : St → Int32 → Int32 → Option St) (σ22 : St) (x20 : Int32) (x21 : Int32) : Option St :=
  fX3_round_49 N q12 σ22 x20 x21 (1 : Int32)
def fX3_round_12b (N : Nat) (q98 : St → Int32 → Option St) (q12 : St → Int32 → Int32 → Option St) (σ10 : St) (x8 : Int32) (x9 : Int32) : Option St :=
  if (2 : Int32) ≤ x9 then (
  q98 σ10 x8)
  else (
  bd0 (fX3_gather N σ10 x8 x9) fun σ16 =>
  if (gI σ16 7) ≤ ((2 : Int32) * (gI σ16 1)) then (
  fX3_round_44 N q12 σ16 x8 x9)
  else (
  bd2 (fX3_isCorrect σ16 x8) fun r52 σ51 =>
  if r52 = (0 : Int32) then (
  fX3_round_44 N q12 σ51 x8 x9)
  else (
  fX3_round_49 N q12 σ51 x8 x9 (0 : Int32))))
def fX3_round_12 (N : Nat) (q98 : St → Int32 → Option St) : Nat → St → Int32 → Int32 → Option St
  | 0, _, _, _ => none
  | n + 1, σ, x8, x9 => fX3_round_12b N q98 (fX3_round_12 N q98 n) σ x8 x9
def fX3_round_2b (N : Nat) (q104 : St → Option St) (q2 : St → Int32 → Option St) (σ3 : St) (x2 : Int32) : Option St :=
  if (gI σ3 0) ≤ x2 then (
  q104 σ3)
  else (
  fX3_round_12 N (fun σ57 x56 =>
 lt1 (x56 + (1 : Int32)) fun x59 =>
  q2 σ57 x59) N σ3 x2 (0 : Int32))
def fX3_round_2 (N : Nat) (q104 : St → Option St) : Nat → St → Int32 → Option St
  | 0, _, _ => none
  | n + 1, σ, x2 => fX3_round_2b N q104 (fX3_round_2 N q104 n) σ x2
def fX3_round (N : Nat) (σ : St) : Option St :=
  fX3_round_2 N (fun σ61 =>
 lt1 (sI σ61 3 ((gI σ61 3) + (1 : Int32))) fun σ63 =>
  some σ63) N σ (0 : Int32)
theorem wX3_round_49 {l : Launch} {p : Program} {e : Env} {s : State} {m : MethodId} {args : Array Value} {below : List Frame} {meth : Method} {c : Code} {D : va_G} {A : Nat → Prop} {ad : Nat → Nat} {ca : Nat → ClassId} {σf : St} (C : Cb p s m args meth c RX3 cX3_round 4) (X : Cx s D A (wM ad ca) (tyM ca)) (hr : meth.sig.returnType = none) {N : Nat} {q12 : St → Int32 → Int32 → Option St} (hq12 : ∀ (σ : St) (y0 : Int32) (y1 : Int32), q12 σ y0 y1 = some σf → bW p l e rmX3_round s m args below meth c 0 0 (MQ below (Qw D (wM ad ca) σf none A) args s 0 0 A) 4 (wd D A (wM ad ca) s σ) 12 [(0, .ref (ad 0)), (1, .int y0), (2, .int y1)] []) : ∀ (σ : St) (y0 : Int32) (y1 : Int32) (y2 : Int32), fX3_round_49 N q12 σ y0 y1 y2 = some σf → bW p l e rmX3_round s m args below meth c 0 0 (MQ below (Qw D (wM ad ca) σf none A) args s 0 0 A) 4 (wd D A (wM ad ca) s σ) 49 [(0, .ref (ad 0)), (1, .int y0), (2, .int y1)] [.int y2] := by
  intro σ27 x24 x25 x26 h28
  refine b_istore_n (lv' := [(3, .int x26), (0, .ref (ad 0)), (1, .int x24), (2, .int x25)]) C dX3_round_49 rfl (by decide) rfl ?_
  refine b_aload_n C 1 dX3_round_50 rfl rfl ?_
  refine gX3_29 C X dX3_round_51 ?_
  refine b_bipush (v := (20 : Int32)) C dX3_round_54 (by decide) ?_
  refine b_aload_n C 1 dX3_round_56 rfl rfl ?_
  refine gX3_64 C X dX3_round_57 ?_
  refine b_imul C dX3_round_60 ?_
  refine b_bipush (v := (20 : Int32)) C dX3_round_61 (by decide) ?_
  refine b_iadd C dX3_round_63 ?_
  refine b_iconst (v := (2 : Int32)) C dX3_round_64 (by decide) ?_
  refine b_iload_n C 2 dX3_round_65 rfl rfl ?_
  refine b_imul C dX3_round_66 ?_
  refine b_iadd C dX3_round_67 ?_
  refine b_iload_n C 3 dX3_round_68 rfl rfl ?_
  refine b_iadd C dX3_round_69 ?_
  refine b_iload_n C 0 dX3_round_70 rfl rfl ?_
  refine b_if_eq (tgt := 87) C dX3_round_71 (by decide) (fun c29 => ?_) (fun c29 => ?_)
  · have h30 := ipos h28 c29; clear h28
    refine b_aload_n C 1 dX3_round_87 rfl rfl ?_
    obtain ⟨r34, σ33, ec32, h32⟩ := bd2_inv h30; clear h30
    refine b_callWl (rest := [.int (((((20 : Int32) * (gI σ27 3)) + (20 : Int32)) + ((2 : Int32) * x24)) + x25), .ref (ad 7)]) C (sameM ad ca) X dX3_round_88 (ctX3_combined ec32) mf_X3_combined mi_X3_combined kl_X3_175 0 rfl rfl rfl rfl ⟨rfl, rfl⟩ ⟨Nat.le_of_ble_eq_true rfl, Nat.le_of_ble_eq_true rfl⟩ ⟨Nat.zero_le _, Nat.zero_le _⟩ rfl (Nat.le_of_ble_eq_true rfl) ?_
    obtain ⟨g36, h35⟩ := gdn h32; clear h32
    refine aM_7 C X g36 dX3_round_91 ?_
    obtain ⟨σ37, eσ37, h38⟩ := lt1_inv h35; clear h35
    refine b_nmS eσ37 ?_
    obtain ⟨x39, ex39, h40⟩ := lt1_inv h38; clear h38
    refine b_iinc (v := x39) (lv' := [(2, .int x39), (3, .int x26), (0, .ref (ad 0)), (1, .int x24)]) C 3 dX3_round_92 rfl (by rw [ex39]; rfl) (by decide) rfl ?_
    refine b_goto (tgt := 12) C dX3_round_95 (by decide) ?_
    exact b_sub [2, 3, 0] rfl (hq12 _ _ _ h40)
  have h31 := ineg h28 c29; clear h28
  refine b_aload_n C 1 dX3_round_74 rfl rfl ?_
  refine b_iload_n C 2 dX3_round_75 rfl rfl ?_
  refine b_aload_n C 1 dX3_round_76 rfl rfl ?_
  refine gX3_64 C X dX3_round_77 ?_
  refine b_iload_n C 3 dX3_round_80 rfl rfl ?_
  obtain ⟨r43, σ42, ec41, h41⟩ := bd2_inv h31; clear h31
  refine b_callWl (rest := [.int (((((20 : Int32) * (gI σ27 3)) + (20 : Int32)) + ((2 : Int32) * x24)) + x25), .ref (ad 7)]) C (sameM ad ca) X dX3_round_81 (ctX3_end ec41) mf_X3_end mi_X3_end kl_X3_136 0 rfl rfl rfl rfl ⟨rfl, rfl⟩ ⟨Nat.le_of_ble_eq_true rfl, Nat.le_of_ble_eq_true rfl⟩ ⟨Nat.zero_le _, Nat.zero_le _⟩ rfl (Nat.le_of_ble_eq_true rfl) ?_
  refine b_goto (tgt := 91) C dX3_round_84 (by decide) ?_
  obtain ⟨g45, h44⟩ := gdn h41; clear h41
  refine aM_7 C X g45 dX3_round_91 ?_
  obtain ⟨σ46, eσ46, h47⟩ := lt1_inv h44; clear h44
  refine b_nmS eσ46 ?_
  obtain ⟨x48, ex48, h49⟩ := lt1_inv h47; clear h47
  refine b_iinc (v := x48) (lv' := [(2, .int x48), (3, .int x26), (0, .ref (ad 0)), (1, .int x24)]) C 3 dX3_round_92 rfl (by rw [ex48]; rfl) (by decide) rfl ?_
  refine b_goto (tgt := 12) C dX3_round_95 (by decide) ?_
  exact b_sub [2, 3, 0] rfl (hq12 _ _ _ h49)
theorem wX3_round_44 {l : Launch} {p : Program} {e : Env} {s : State} {m : MethodId} {args : Array Value} {below : List Frame} {meth : Method} {c : Code} {D : va_G} {A : Nat → Prop} {ad : Nat → Nat} {ca : Nat → ClassId} {σf : St} (C : Cb p s m args meth c RX3 cX3_round 4) (X : Cx s D A (wM ad ca) (tyM ca)) (hr : meth.sig.returnType = none) {N : Nat} {q12 : St → Int32 → Int32 → Option St} (hq12 : ∀ (σ : St) (y0 : Int32) (y1 : Int32), q12 σ y0 y1 = some σf → bW p l e rmX3_round s m args below meth c 0 0 (MQ below (Qw D (wM ad ca) σf none A) args s 0 0 A) 4 (wd D A (wM ad ca) s σ) 12 [(0, .ref (ad 0)), (1, .int y0), (2, .int y1)] []) : ∀ (σ : St) (y0 : Int32) (y1 : Int32), fX3_round_44 N q12 σ y0 y1 = some σf → bW p l e rmX3_round s m args below meth c 0 0 (MQ below (Qw D (wM ad ca) σf none A) args s 0 0 A) 4 (wd D A (wM ad ca) s σ) 44 [(0, .ref (ad 0)), (1, .int y0), (2, .int y1)] [] := by
  intro σ22 x20 x21 h23
  refine b_iconst (v := (1 : Int32)) C dX3_round_44 (by decide) ?_
  refine b_goto (tgt := 49) C dX3_round_45 (by decide) ?_
  exact b_sub [0, 1, 2] rfl (wX3_round_49 C X hr hq12 _ _ _ _ h23)
theorem wX3_round_12 {l : Launch} {p : Program} {e : Env} {s : State} {m : MethodId} {args : Array Value} {below : List Frame} {meth : Method} {c : Code} {D : va_G} {A : Nat → Prop} {ad : Nat → Nat} {ca : Nat → ClassId} {σf : St} (C : Cb p s m args meth c RX3 cX3_round 4) (X : Cx s D A (wM ad ca) (tyM ca)) (hr : meth.sig.returnType = none) {N : Nat} {q98 : St → Int32 → Option St} (hq98 : ∀ (σ : St) (y0 : Int32), q98 σ y0 = some σf → bW p l e rmX3_round s m args below meth c 0 0 (MQ below (Qw D (wM ad ca) σf none A) args s 0 0 A) 4 (wd D A (wM ad ca) s σ) 98 [(0, .ref (ad 0)), (1, .int y0)] []) : ∀ n : Nat, ∀ (σ : St) (y0 : Int32) (y1 : Int32), fX3_round_12 N q98 n σ y0 y1 = some σf → bW p l e rmX3_round s m args below meth c 0 0 (MQ below (Qw D (wM ad ca) σf none A) args s 0 0 A) 4 (wd D A (wM ad ca) s σ) 12 [(0, .ref (ad 0)), (1, .int y0), (2, .int y1)] [] := by
  intro n
  induction n with
  | zero => intro σ10 x8 x9 h11; exact nn h11
  | succ n hq12 =>
    intro σ10 x8 x9 h11
    replace h11 : fX3_round_12b N q98 (fX3_round_12 N q98 n) σ10 x8 x9 = some σf := h11
    refine b_iload_n C 2 dX3_round_12 rfl rfl ?_
    refine b_iconst (v := (2 : Int32)) C dX3_round_13 (by decide) ?_
    refine b_icmp_ge (tgt := 98) C dX3_round_14 (by decide) (fun c12 => ?_) (fun c12 => ?_)
    · have h13 := ipos h11 c12; clear h11
      exact b_sub [0, 1] rfl (hq98 _ _ h13)
    have h14 := ineg h11 c12; clear h11
    refine b_aload_n C 0 dX3_round_17 rfl rfl ?_
    refine b_iload_n C 1 dX3_round_18 rfl rfl ?_
    refine b_iload_n C 2 dX3_round_19 rfl rfl ?_
    obtain ⟨σ16, ec15, h15⟩ := bd0_inv h14; clear h14
    refine b_callWv (rest := []) C (sameM ad ca) X dX3_round_20 (ctX3_gather ec15) mf_X3_gather mi_X3_gather kl_X3_171 0 rfl rfl rfl rfl ⟨rfl, rfl⟩ ⟨Nat.le_of_ble_eq_true rfl, Nat.le_of_ble_eq_true rfl⟩ ⟨Nat.zero_le _, Nat.zero_le _⟩ rfl (Nat.le_of_ble_eq_true rfl) ?_
    refine b_aload_n C 0 dX3_round_23 rfl rfl ?_
    refine gX3_159 C X dX3_round_24 ?_
    refine b_iconst (v := (2 : Int32)) C dX3_round_27 (by decide) ?_
    refine b_aload_n C 0 dX3_round_28 rfl rfl ?_
    refine gX3_54 C X dX3_round_29 ?_
    refine b_imul C dX3_round_32 ?_
    refine b_icmp_le (tgt := 44) C dX3_round_33 (by decide) (fun c17 => ?_) (fun c17 => ?_)
    · have h18 := ipos h15 c17; clear h15
      exact b_sub [0, 1, 2] rfl (wX3_round_44 C X hr hq12 _ _ _ h18)
    have h19 := ineg h15 c17; clear h15
    refine b_aload_n C 0 dX3_round_36 rfl rfl ?_
    refine b_iload_n C 1 dX3_round_37 rfl rfl ?_
    obtain ⟨r52, σ51, ec50, h50⟩ := bd2_inv h19; clear h19
    refine b_callWi (rest := []) C (sameM ad ca) X dX3_round_38 (ctX3_isCorrect ec50) mf_X3_isCorrect mi_X3_isCorrect kl_X3_133 0 rfl rfl rfl rfl ⟨rfl, rfl⟩ ⟨Nat.le_of_ble_eq_true rfl, Nat.le_of_ble_eq_true rfl⟩ ⟨Nat.zero_le _, Nat.zero_le _⟩ rfl (Nat.le_of_ble_eq_true rfl) ?_
    refine b_if_ne (tgt := 48) C dX3_round_41 (by decide) (fun c53 => ?_) (fun c53 => ?_)
    · have h54 := ineg h50 c53; clear h50
      refine b_iconst (v := (0 : Int32)) C dX3_round_48 (by decide) ?_
      exact b_sub [0, 1, 2] rfl (wX3_round_49 C X hr hq12 _ _ _ _ h54)
    have h55 := ipos h50 c53; clear h50
    exact b_sub [0, 1, 2] rfl (wX3_round_44 C X hr hq12 _ _ _ h55)
theorem wX3_round_2 {l : Launch} {p : Program} {e : Env} {s : State} {m : MethodId} {args : Array Value} {below : List Frame} {meth : Method} {c : Code} {D : va_G} {A : Nat → Prop} {ad : Nat → Nat} {ca : Nat → ClassId} {σf : St} (C : Cb p s m args meth c RX3 cX3_round 4) (X : Cx s D A (wM ad ca) (tyM ca)) (hr : meth.sig.returnType = none) {N : Nat} {q104 : St → Option St} (hq104 : ∀ (σ : St), q104 σ = some σf → bW p l e rmX3_round s m args below meth c 0 0 (MQ below (Qw D (wM ad ca) σf none A) args s 0 0 A) 4 (wd D A (wM ad ca) s σ) 104 [(0, .ref (ad 0))] []) : ∀ n : Nat, ∀ (σ : St) (y0 : Int32), fX3_round_2 N q104 n σ y0 = some σf → bW p l e rmX3_round s m args below meth c 0 0 (MQ below (Qw D (wM ad ca) σf none A) args s 0 0 A) 4 (wd D A (wM ad ca) s σ) 2 [(0, .ref (ad 0)), (1, .int y0)] [] := by
  intro n
  induction n with
  | zero => intro σ3 x2 h4; exact nn h4
  | succ n hq2 =>
    intro σ3 x2 h4
    replace h4 : fX3_round_2b N q104 (fX3_round_2 N q104 n) σ3 x2 = some σf := h4
    refine b_iload_n C 1 dX3_round_2 rfl rfl ?_
    refine b_aload_n C 0 dX3_round_3 rfl rfl ?_
    refine gX3_50 C X dX3_round_4 ?_
    refine b_icmp_ge (tgt := 104) C dX3_round_7 (by decide) (fun c5 => ?_) (fun c5 => ?_)
    · have h6 := ipos h4 c5; clear h4
      exact b_sub [0] rfl (hq104 _ h6)
    have h7 := ineg h4 c5; clear h4
    refine b_iconst (v := (0 : Int32)) C dX3_round_10 (by decide) ?_
    refine b_istore_n (lv' := [(2, .int (0 : Int32)), (0, .ref (ad 0)), (1, .int x2)]) C dX3_round_11 rfl (by decide) rfl ?_
    refine b_sub [1, 2, 0] rfl (wX3_round_12 C X hr (fun σ57 x56 h58 => ?_) _ _ _ _ h7)
    obtain ⟨x59, ex59, h60⟩ := lt1_inv h58; clear h58
    refine b_iinc (v := x59) (lv' := [(1, .int x59), (0, .ref (ad 0))]) C 1 dX3_round_98 rfl (by rw [ex59]; rfl) (by decide) rfl ?_
    refine b_goto (tgt := 2) C dX3_round_101 (by decide) ?_
    exact b_sub [1, 0] rfl (hq2 _ _ h60)
theorem ctX3_round {l : Launch} {ad : Nat → Nat} {ca : Nat → ClassId} {N : Nat} {σ : St} {σf : St} (h : fX3_round N σ = some σf) : Cw l yX3_round cX3_round 4 none rmX3_round [.ref (ad 0)] (wM ad ca) (tyM ca) σ none σf := by
  refine Cw_of (by decide) (sameM ad ca) (Nat.le_of_ble_eq_true rfl) ?_
  intro p e s m args below meth c D A C X hr
  replace C : Cb p s m args meth c RX3 cX3_round 4 := C
  have h1 := h; clear h
  refine b_sub (lv' := [(0, .ref (ad 0))]) [0] rfl ?_
  refine b_iconst (v := (0 : Int32)) C dX3_round_0 (by decide) ?_
  refine b_istore_n (lv' := [(1, .int (0 : Int32)), (0, .ref (ad 0))]) C dX3_round_1 rfl (by decide) rfl ?_
  refine b_sub [1, 0] rfl (wX3_round_2 C X hr (fun σ61 h62 => ?_) _ _ _ h1)
  refine b_aload_n C 0 dX3_round_104 rfl rfl ?_
  refine b_dup C dX3_round_105 rfl ?_
  refine gX3_64 C X dX3_round_106 ?_
  refine b_iconst (v := (1 : Int32)) C dX3_round_109 (by decide) ?_
  refine b_iadd C dX3_round_110 ?_
  refine pX3_64 C X dX3_round_111 ?_
  obtain ⟨σ63, eσ63, h64⟩ := lt1_inv h62; clear h62
  refine b_nmS eσ63 ?_
  obtain rfl := so1 h64
  exact b_vret C dX3_round_114 hr
def rmX3_run : Room := { frames := 5, cells := 0, slots := 0, locals := 130 }
def fX3_run_33b (N : Nat) (q48 : St → Option (Int32 × St)) (q33 : St → Int32 → Int32 → Option (Int32 × St)) (σ13 : St) (x11 : Int32) (x12 : Int32) : Option (Int32 × St) :=
  if x11 ≤ x12 then (
  q48 σ13)
  else (
  bd0 (fX3_round N σ13) fun σ19 =>
  lt1 (x12 + (1 : Int32)) fun x20 =>
  q33 σ19 x11 x20)
def fX3_run_33 (N : Nat) (q48 : St → Option (Int32 × St)) : Nat → St → Int32 → Int32 → Option (Int32 × St)
  | 0, _, _, _ => none
  | n + 1, σ, x11, x12 => fX3_run_33b N q48 (fX3_run_33 N q48 n) σ x11 x12
def fX3_run (N : Nat) (σ : St) (a1 : Int32) : Option (Int32 × St) :=
  bd0 (fX3_within (a1.toInt64) (1 : Int64) (60 : Int64)) fun r4 =>
  if r4 = (0 : Int32) then (
  some ((-1002 : Int32), σ))
  else (
  if ((gI σ 3) + a1) ≤ (60 : Int32) then (
  fX3_run_33 N (fun σ22 =>
 some ((gI σ22 3), σ22)) N σ a1 (0 : Int32))
  else (
  some ((-1004 : Int32), σ)))
theorem wX3_run_33 {l : Launch} {p : Program} {e : Env} {s : State} {m : MethodId} {args : Array Value} {below : List Frame} {meth : Method} {c : Code} {D : va_G} {A : Nat → Prop} {ad : Nat → Nat} {ca : Nat → ClassId} {rf : Int32} {σf : St} (C : Cb p s m args meth c RX3 cX3_run 3) (X : Cx s D A (wM ad ca) (tyM ca)) (hr : meth.sig.returnType = (some .int)) {N : Nat} {q48 : St → Option (Int32 × St)} (hq48 : ∀ (σ : St), q48 σ = some (rf, σf) → bW p l e rmX3_run s m args below meth c 0 0 (MQ below (Qw D (wM ad ca) σf (some (.int rf)) A) args s 0 0 A) 3 (wd D A (wM ad ca) s σ) 48 [(0, .ref (ad 0))] []) : ∀ n : Nat, ∀ (σ : St) (y0 : Int32) (y1 : Int32), fX3_run_33 N q48 n σ y0 y1 = some (rf, σf) → bW p l e rmX3_run s m args below meth c 0 0 (MQ below (Qw D (wM ad ca) σf (some (.int rf)) A) args s 0 0 A) 3 (wd D A (wM ad ca) s σ) 33 [(0, .ref (ad 0)), (1, .int y0), (2, .int y1)] [] := by
  intro n
  induction n with
  | zero => intro σ13 x11 x12 h14; exact nn h14
  | succ n hq33 =>
    intro σ13 x11 x12 h14
    replace h14 : fX3_run_33b N q48 (fX3_run_33 N q48 n) σ13 x11 x12 = some (rf, σf) := h14
    refine b_iload_n C 2 dX3_run_33 rfl rfl ?_
    refine b_iload_n C 1 dX3_run_34 rfl rfl ?_
    refine b_icmp_ge (tgt := 48) C dX3_run_35 (by decide) (fun c15 => ?_) (fun c15 => ?_)
    · have h16 := ipos h14 c15; clear h14
      exact b_sub [0] rfl (hq48 _ h16)
    have h17 := ineg h14 c15; clear h14
    refine b_aload_n C 0 dX3_run_38 rfl rfl ?_
    obtain ⟨σ19, ec18, h18⟩ := bd0_inv h17; clear h17
    refine b_callWv (rest := []) C (sameM ad ca) X dX3_run_39 (ctX3_round ec18) mf_X3_round mi_X3_round kl_X3_180 0 rfl rfl rfl rfl ⟨rfl, rfl⟩ ⟨Nat.le_of_ble_eq_true rfl, Nat.le_of_ble_eq_true rfl⟩ ⟨Nat.zero_le _, Nat.zero_le _⟩ rfl (Nat.le_of_ble_eq_true rfl) ?_
    obtain ⟨x20, ex20, h21⟩ := lt1_inv h18; clear h18
    refine b_iinc (v := x20) (lv' := [(2, .int x20), (0, .ref (ad 0)), (1, .int x11)]) C 2 dX3_run_42 rfl (by rw [ex20]; rfl) (by decide) rfl ?_
    refine b_goto (tgt := 33) C dX3_run_45 (by decide) ?_
    exact b_sub [1, 2, 0] rfl (hq33 _ _ _ h21)
theorem ctX3_run {l : Launch} {ad : Nat → Nat} {ca : Nat → ClassId} {N : Nat} {σ : St} {a1 : Int32} {rf : Int32} {σf : St} (h : fX3_run N σ a1 = some (rf, σf)) : Cw l yX3_run cX3_run 3 (some .int) rmX3_run [.ref (ad 0), .int a1] (wM ad ca) (tyM ca) σ (some (.int rf)) σf := by
  refine Cw_of (by decide) (sameM ad ca) (Nat.le_of_ble_eq_true rfl) ?_
  intro p e s m args below meth c D A C X hr
  replace C : Cb p s m args meth c RX3 cX3_run 3 := C
  have h2 := h; clear h
  refine b_sub (lv' := [(0, .ref (ad 0)), (1, .int a1)]) [0, 1] rfl ?_
  refine b_iload_n C 1 dX3_run_0 rfl rfl ?_
  refine b_i2l C dX3_run_1 ?_
  refine b_lconst (v := (1 : Int64)) C dX3_run_2 (by decide) ?_
  refine b_ldc2 (v := (60 : Int64)) C dX3_run_3 kc_X3_178 ?_
  obtain ⟨r4, ec3, h3⟩ := bd0_inv h2; clear h2
  refine b_callSi (rest := []) C dX3_run_6 (ctX3_within ec3) mf_X3_within ms_X3_within kl_X3_71 rfl ⟨rfl, rfl⟩ ⟨Nat.le_of_ble_eq_true rfl, Nat.le_of_ble_eq_true rfl⟩ ⟨Nat.zero_le _, Nat.zero_le _⟩ rfl (Nat.le_of_ble_eq_true rfl) ?_
  refine b_if_ne (tgt := 16) C dX3_run_9 (by decide) (fun c5 => ?_) (fun c5 => ?_)
  · have h6 := ineg h3 c5; clear h3
    refine b_aload_n C 0 dX3_run_16 rfl rfl ?_
    refine gX3_64 C X dX3_run_17 ?_
    refine b_iload_n C 1 dX3_run_20 rfl rfl ?_
    refine b_iadd C dX3_run_21 ?_
    refine b_bipush (v := (60 : Int32)) C dX3_run_22 (by decide) ?_
    refine b_icmp_le (tgt := 31) C dX3_run_24 (by decide) (fun c8 => ?_) (fun c8 => ?_)
    · have h9 := ipos h6 c8; clear h6
      refine b_iconst (v := (0 : Int32)) C dX3_run_31 (by decide) ?_
      refine b_istore_n (lv' := [(2, .int (0 : Int32)), (0, .ref (ad 0)), (1, .int a1)]) C dX3_run_32 rfl (by decide) rfl ?_
      refine b_sub [1, 2, 0] rfl (wX3_run_33 C X hr (fun σ22 h23 => ?_) _ _ _ _ h9)
      refine b_aload_n C 0 dX3_run_48 rfl rfl ?_
      refine gX3_64 C X dX3_run_49 ?_
      obtain ⟨rfl, rfl⟩ := so2 h23
      exact b_iret C dX3_run_52 hr
    have h10 := ineg h6 c8; clear h6
    refine b_sipush (v := (-1004 : Int32)) C dX3_run_27 (by decide) ?_
    obtain ⟨rfl, rfl⟩ := so2 h10
    exact b_iret C dX3_run_30 hr
  have h7 := ipos h3 c5; clear h3
  refine b_sipush (v := (-1002 : Int32)) C dX3_run_12 (by decide) ?_
  obtain ⟨rfl, rfl⟩ := so2 h7
  exact b_iret C dX3_run_15 hr
def rmX3_widthOf : Room := { frames := 1, cells := 0, slots := 0, locals := 23 }
def fX3_widthOf_26b (N : Nat) (q98 : St → Int32 → Int64 → Int32 → Int32 → Option (Int64 × St)) (q26 : St → Int32 → Int64 → Int32 → Int32 → Int32 → Option (Int64 × St)) (σ25 : St) (x20 : Int32) (x21 : Int64) (x22 : Int32) (x23 : Int32) (x24 : Int32) : Option (Int64 × St) :=
  if (gI σ25 0) ≤ x24 then (
  q98 σ25 x20 x21 x22 x23)
  else (
  bd2 (fX3_isCorrect σ25 x23) fun r32 σ31 =>
  if r32 = (0 : Int32) then (
  if (0 : Int64) ≤ x21 then (
  lt1 (x24 + (1 : Int32)) fun x39 =>
  q26 σ31 x20 x21 x22 x23 x39)
  else (
  lt1 (x24 + (1 : Int32)) fun x41 =>
  q26 σ31 x20 (0 : Int64) x22 x23 x41))
  else (
  bd2 (fX3_isCorrect σ31 x24) fun r45 σ44 =>
  if r45 = (0 : Int32) then (
  if (0 : Int64) ≤ x21 then (
  lt1 (x24 + (1 : Int32)) fun x52 =>
  q26 σ44 x20 x21 x22 x23 x52)
  else (
  lt1 (x24 + (1 : Int32)) fun x54 =>
  q26 σ44 x20 (0 : Int64) x22 x23 x54))
  else (
  bd2 (fX3_end σ44 x23 x20 x22) fun r58 σ57 =>
  bd2 (fX3_end σ57 x24 x20 x22) fun r61 σ60 =>
  lt1 (r58 - r61) fun x62 =>
  if x62 ≤ x21 then (
  lt1 (x24 + (1 : Int32)) fun x67 =>
  q26 σ60 x20 x21 x22 x23 x67)
  else (
  lt1 (x24 + (1 : Int32)) fun x69 =>
  q26 σ60 x20 x62 x22 x23 x69))))
def fX3_widthOf_26 (N : Nat) (q98 : St → Int32 → Int64 → Int32 → Int32 → Option (Int64 × St)) : Nat → St → Int32 → Int64 → Int32 → Int32 → Int32 → Option (Int64 × St)
  | 0, _, _, _, _, _, _ => none
  | n + 1, σ, x20, x21, x22, x23, x24 => fX3_widthOf_26b N q98 (fX3_widthOf_26 N q98 n) σ x20 x21 x22 x23 x24
def fX3_widthOf_14b (N : Nat) (q104 : St → Int32 → Int64 → Int32 → Option (Int64 × St)) (q14 : St → Int32 → Int64 → Int32 → Int32 → Option (Int64 × St)) (σ15 : St) (x11 : Int32) (x12 : Int64) (x13 : Int32) (x14 : Int32) : Option (Int64 × St) :=
  if (gI σ15 0) ≤ x14 then (
  q104 σ15 x11 x12 x13)
  else (
  fX3_widthOf_26 N (fun σ75 x71 x72 x73 x74 =>
 lt1 (x74 + (1 : Int32)) fun x77 =>
  q14 σ75 x71 x72 x73 x77) N σ15 x11 x12 x13 x14 (0 : Int32))
def fX3_widthOf_14 (N : Nat) (q104 : St → Int32 → Int64 → Int32 → Option (Int64 × St)) : Nat → St → Int32 → Int64 → Int32 → Int32 → Option (Int64 × St)
  | 0, _, _, _, _, _ => none
  | n + 1, σ, x11, x12, x13, x14 => fX3_widthOf_14b N q104 (fX3_widthOf_14 N q104 n) σ x11 x12 x13 x14
def fX3_widthOf_5b (N : Nat) (q110 : St → Int64 → Option (Int64 × St)) (q5 : St → Int32 → Int64 → Int32 → Option (Int64 × St)) (σ6 : St) (x3 : Int32) (x4 : Int64) (x5 : Int32) : Option (Int64 × St) :=
  if (2 : Int32) ≤ x5 then (
  q110 σ6 x4)
  else (
  fX3_widthOf_14 N (fun σ82 x79 x80 x81 =>
 lt1 (x81 + (1 : Int32)) fun x84 =>
  q5 σ82 x79 x80 x84) N σ6 x3 x4 x5 (0 : Int32))
def fX3_widthOf_5 (N : Nat) (q110 : St → Int64 → Option (Int64 × St)) : Nat → St → Int32 → Int64 → Int32 → Option (Int64 × St)
  | 0, _, _, _, _ => none
  | n + 1, σ, x3, x4, x5 => fX3_widthOf_5b N q110 (fX3_widthOf_5 N q110 n) σ x3 x4 x5
def fX3_widthOf (N : Nat) (σ : St) (a1 : Int32) : Option (Int64 × St) :=
  fX3_widthOf_5 N (fun σ87 x86 =>
 some (x86, σ87)) N σ a1 (0 : Int64) (0 : Int32)
theorem wX3_widthOf_26 {l : Launch} {p : Program} {e : Env} {s : State} {m : MethodId} {args : Array Value} {below : List Frame} {meth : Method} {c : Code} {D : va_G} {A : Nat → Prop} {ad : Nat → Nat} {ca : Nat → ClassId} {rf : Int64} {σf : St} (C : Cb p s m args meth c RX3 cX3_widthOf 9) (X : Cx s D A (wM ad ca) (tyM ca)) (hr : meth.sig.returnType = (some .long)) {N : Nat} {q98 : St → Int32 → Int64 → Int32 → Int32 → Option (Int64 × St)} (hq98 : ∀ (σ : St) (y0 : Int32) (y1 : Int64) (y2 : Int32) (y3 : Int32), q98 σ y0 y1 y2 y3 = some (rf, σf) → bW p l e rmX3_widthOf s m args below meth c 0 0 (MQ below (Qw D (wM ad ca) σf (some (.long rf)) A) args s 0 0 A) 9 (wd D A (wM ad ca) s σ) 98 [(0, .ref (ad 0)), (1, .int y0), (2, .long y1), (4, .int y2), (5, .int y3)] []) : ∀ n : Nat, ∀ (σ : St) (y0 : Int32) (y1 : Int64) (y2 : Int32) (y3 : Int32) (y4 : Int32), fX3_widthOf_26 N q98 n σ y0 y1 y2 y3 y4 = some (rf, σf) → bW p l e rmX3_widthOf s m args below meth c 0 0 (MQ below (Qw D (wM ad ca) σf (some (.long rf)) A) args s 0 0 A) 9 (wd D A (wM ad ca) s σ) 26 [(0, .ref (ad 0)), (1, .int y0), (2, .long y1), (4, .int y2), (5, .int y3), (6, .int y4)] [] := by
  intro n
  induction n with
  | zero => intro σ25 x20 x21 x22 x23 x24 h26; exact nn h26
  | succ n hq26 =>
    intro σ25 x20 x21 x22 x23 x24 h26
    replace h26 : fX3_widthOf_26b N q98 (fX3_widthOf_26 N q98 n) σ25 x20 x21 x22 x23 x24 = some (rf, σf) := h26
    refine b_iload C 5 dX3_widthOf_26 rfl ?_
    refine b_aload_n C 0 dX3_widthOf_28 rfl rfl ?_
    refine gX3_50 C X dX3_widthOf_29 ?_
    refine b_icmp_ge (tgt := 98) C dX3_widthOf_32 (by decide) (fun c27 => ?_) (fun c27 => ?_)
    · have h28 := ipos h26 c27; clear h26
      exact b_sub [0, 1, 2, 3, 4] rfl (hq98 _ _ _ _ _ h28)
    have h29 := ineg h26 c27; clear h26
    refine b_aload_n C 0 dX3_widthOf_35 rfl rfl ?_
    refine b_iload C 4 dX3_widthOf_36 rfl ?_
    obtain ⟨r32, σ31, ec30, h30⟩ := bd2_inv h29; clear h29
    refine b_callWi (rest := []) C (sameM ad ca) X dX3_widthOf_38 (ctX3_isCorrect ec30) mf_X3_isCorrect mi_X3_isCorrect kl_X3_133 0 rfl rfl rfl rfl ⟨rfl, rfl⟩ ⟨Nat.le_of_ble_eq_true rfl, Nat.le_of_ble_eq_true rfl⟩ ⟨Nat.zero_le _, Nat.zero_le _⟩ rfl (Nat.le_of_ble_eq_true rfl) ?_
    refine b_if_eq (tgt := 75) C dX3_widthOf_41 (by decide) (fun c33 => ?_) (fun c33 => ?_)
    · have h34 := ipos h30 c33; clear h30
      refine b_lconst (v := (0 : Int64)) C dX3_widthOf_75 (by decide) ?_
      refine b_lstore (lv' := [(7, .long (0 : Int64)), (0, .ref (ad 0)), (1, .int x20), (2, .long x21), (4, .int x22), (5, .int x23), (6, .int x24)]) C dX3_widthOf_76 (by decide) rfl ?_
      refine b_lload C 0 dX3_widthOf_78 rfl ?_
      refine b_lload_n C 3 dX3_widthOf_80 rfl rfl ?_
      refine b_lc_le (tgt := 90) C dX3_widthOf_81 dX3_widthOf_82 (by decide) (fun c36 => ?_) (fun c36 => ?_)
      · have h37 := ipos h34 c36; clear h34
        refine b_lload_n C 3 dX3_widthOf_90 rfl rfl ?_
        refine b_lstore_n (lv' := [(2, .long x21), (7, .long (0 : Int64)), (0, .ref (ad 0)), (1, .int x20), (4, .int x22), (5, .int x23), (6, .int x24)]) C dX3_widthOf_91 rfl (by decide) rfl ?_
        obtain ⟨x39, ex39, h40⟩ := lt1_inv h37; clear h37
        refine b_iinc (v := x39) (lv' := [(6, .int x39), (2, .long x21), (7, .long (0 : Int64)), (0, .ref (ad 0)), (1, .int x20), (4, .int x22), (5, .int x23)]) C 6 dX3_widthOf_92 rfl (by rw [ex39]; rfl) (by decide) rfl ?_
        refine b_goto (tgt := 26) C dX3_widthOf_95 (by decide) ?_
        exact b_sub [3, 4, 1, 5, 6, 0] rfl (hq26 _ _ _ _ _ _ h40)
      have h38 := ineg h34 c36; clear h34
      refine b_lload C 0 dX3_widthOf_85 rfl ?_
      refine b_goto (tgt := 91) C dX3_widthOf_87 (by decide) ?_
      refine b_lstore_n (lv' := [(2, .long (0 : Int64)), (7, .long (0 : Int64)), (0, .ref (ad 0)), (1, .int x20), (4, .int x22), (5, .int x23), (6, .int x24)]) C dX3_widthOf_91 rfl (by decide) rfl ?_
      obtain ⟨x41, ex41, h42⟩ := lt1_inv h38; clear h38
      refine b_iinc (v := x41) (lv' := [(6, .int x41), (2, .long (0 : Int64)), (7, .long (0 : Int64)), (0, .ref (ad 0)), (1, .int x20), (4, .int x22), (5, .int x23)]) C 6 dX3_widthOf_92 rfl (by rw [ex41]; rfl) (by decide) rfl ?_
      refine b_goto (tgt := 26) C dX3_widthOf_95 (by decide) ?_
      exact b_sub [3, 4, 1, 5, 6, 0] rfl (hq26 _ _ _ _ _ _ h42)
    have h35 := ineg h30 c33; clear h30
    refine b_aload_n C 0 dX3_widthOf_44 rfl rfl ?_
    refine b_iload C 5 dX3_widthOf_45 rfl ?_
    obtain ⟨r45, σ44, ec43, h43⟩ := bd2_inv h35; clear h35
    refine b_callWi (rest := []) C (sameM ad ca) X dX3_widthOf_47 (ctX3_isCorrect ec43) mf_X3_isCorrect mi_X3_isCorrect kl_X3_133 0 rfl rfl rfl rfl ⟨rfl, rfl⟩ ⟨Nat.le_of_ble_eq_true rfl, Nat.le_of_ble_eq_true rfl⟩ ⟨Nat.zero_le _, Nat.zero_le _⟩ rfl (Nat.le_of_ble_eq_true rfl) ?_
    refine b_if_eq (tgt := 75) C dX3_widthOf_50 (by decide) (fun c46 => ?_) (fun c46 => ?_)
    · have h47 := ipos h43 c46; clear h43
      refine b_lconst (v := (0 : Int64)) C dX3_widthOf_75 (by decide) ?_
      refine b_lstore (lv' := [(7, .long (0 : Int64)), (0, .ref (ad 0)), (1, .int x20), (2, .long x21), (4, .int x22), (5, .int x23), (6, .int x24)]) C dX3_widthOf_76 (by decide) rfl ?_
      refine b_lload C 0 dX3_widthOf_78 rfl ?_
      refine b_lload_n C 3 dX3_widthOf_80 rfl rfl ?_
      refine b_lc_le (tgt := 90) C dX3_widthOf_81 dX3_widthOf_82 (by decide) (fun c49 => ?_) (fun c49 => ?_)
      · have h50 := ipos h47 c49; clear h47
        refine b_lload_n C 3 dX3_widthOf_90 rfl rfl ?_
        refine b_lstore_n (lv' := [(2, .long x21), (7, .long (0 : Int64)), (0, .ref (ad 0)), (1, .int x20), (4, .int x22), (5, .int x23), (6, .int x24)]) C dX3_widthOf_91 rfl (by decide) rfl ?_
        obtain ⟨x52, ex52, h53⟩ := lt1_inv h50; clear h50
        refine b_iinc (v := x52) (lv' := [(6, .int x52), (2, .long x21), (7, .long (0 : Int64)), (0, .ref (ad 0)), (1, .int x20), (4, .int x22), (5, .int x23)]) C 6 dX3_widthOf_92 rfl (by rw [ex52]; rfl) (by decide) rfl ?_
        refine b_goto (tgt := 26) C dX3_widthOf_95 (by decide) ?_
        exact b_sub [3, 4, 1, 5, 6, 0] rfl (hq26 _ _ _ _ _ _ h53)
      have h51 := ineg h47 c49; clear h47
      refine b_lload C 0 dX3_widthOf_85 rfl ?_
      refine b_goto (tgt := 91) C dX3_widthOf_87 (by decide) ?_
      refine b_lstore_n (lv' := [(2, .long (0 : Int64)), (7, .long (0 : Int64)), (0, .ref (ad 0)), (1, .int x20), (4, .int x22), (5, .int x23), (6, .int x24)]) C dX3_widthOf_91 rfl (by decide) rfl ?_
      obtain ⟨x54, ex54, h55⟩ := lt1_inv h51; clear h51
      refine b_iinc (v := x54) (lv' := [(6, .int x54), (2, .long (0 : Int64)), (7, .long (0 : Int64)), (0, .ref (ad 0)), (1, .int x20), (4, .int x22), (5, .int x23)]) C 6 dX3_widthOf_92 rfl (by rw [ex54]; rfl) (by decide) rfl ?_
      refine b_goto (tgt := 26) C dX3_widthOf_95 (by decide) ?_
      exact b_sub [3, 4, 1, 5, 6, 0] rfl (hq26 _ _ _ _ _ _ h55)
    have h48 := ineg h43 c46; clear h43
    refine b_aload_n C 0 dX3_widthOf_53 rfl rfl ?_
    refine b_iload C 4 dX3_widthOf_54 rfl ?_
    refine b_iload_n C 1 dX3_widthOf_56 rfl rfl ?_
    refine b_iload C 3 dX3_widthOf_57 rfl ?_
    obtain ⟨r58, σ57, ec56, h56⟩ := bd2_inv h48; clear h48
    refine b_callWl (rest := []) C (sameM ad ca) X dX3_widthOf_59 (ctX3_end ec56) mf_X3_end mi_X3_end kl_X3_136 0 rfl rfl rfl rfl ⟨rfl, rfl⟩ ⟨Nat.le_of_ble_eq_true rfl, Nat.le_of_ble_eq_true rfl⟩ ⟨Nat.zero_le _, Nat.zero_le _⟩ rfl (Nat.le_of_ble_eq_true rfl) ?_
    refine b_aload_n C 0 dX3_widthOf_62 rfl rfl ?_
    refine b_iload C 5 dX3_widthOf_63 rfl ?_
    refine b_iload_n C 1 dX3_widthOf_65 rfl rfl ?_
    refine b_iload C 3 dX3_widthOf_66 rfl ?_
    obtain ⟨r61, σ60, ec59, h59⟩ := bd2_inv h56; clear h56
    refine b_callWl (rest := [.long r58]) C (sameM ad ca) X dX3_widthOf_68 (ctX3_end ec59) mf_X3_end mi_X3_end kl_X3_136 0 rfl rfl rfl rfl ⟨rfl, rfl⟩ ⟨Nat.le_of_ble_eq_true rfl, Nat.le_of_ble_eq_true rfl⟩ ⟨Nat.zero_le _, Nat.zero_le _⟩ rfl (Nat.le_of_ble_eq_true rfl) ?_
    refine b_lsub C dX3_widthOf_71 ?_
    refine b_goto (tgt := 76) C dX3_widthOf_72 (by decide) ?_
    obtain ⟨x62, ex62, h63⟩ := lt1_inv h59; clear h59
    refine b_nmJ ex62 ?_
    refine b_lstore (lv' := [(7, .long x62), (0, .ref (ad 0)), (1, .int x20), (2, .long x21), (4, .int x22), (5, .int x23), (6, .int x24)]) C dX3_widthOf_76 (by decide) rfl ?_
    refine b_lload C 0 dX3_widthOf_78 rfl ?_
    refine b_lload_n C 3 dX3_widthOf_80 rfl rfl ?_
    refine b_lc_le (tgt := 90) C dX3_widthOf_81 dX3_widthOf_82 (by decide) (fun c64 => ?_) (fun c64 => ?_)
    · have h65 := ipos h63 c64; clear h63
      refine b_lload_n C 3 dX3_widthOf_90 rfl rfl ?_
      refine b_lstore_n (lv' := [(2, .long x21), (7, .long x62), (0, .ref (ad 0)), (1, .int x20), (4, .int x22), (5, .int x23), (6, .int x24)]) C dX3_widthOf_91 rfl (by decide) rfl ?_
      obtain ⟨x67, ex67, h68⟩ := lt1_inv h65; clear h65
      refine b_iinc (v := x67) (lv' := [(6, .int x67), (2, .long x21), (7, .long x62), (0, .ref (ad 0)), (1, .int x20), (4, .int x22), (5, .int x23)]) C 6 dX3_widthOf_92 rfl (by rw [ex67]; rfl) (by decide) rfl ?_
      refine b_goto (tgt := 26) C dX3_widthOf_95 (by decide) ?_
      exact b_sub [3, 4, 1, 5, 6, 0] rfl (hq26 _ _ _ _ _ _ h68)
    have h66 := ineg h63 c64; clear h63
    refine b_lload C 0 dX3_widthOf_85 rfl ?_
    refine b_goto (tgt := 91) C dX3_widthOf_87 (by decide) ?_
    refine b_lstore_n (lv' := [(2, .long x62), (7, .long x62), (0, .ref (ad 0)), (1, .int x20), (4, .int x22), (5, .int x23), (6, .int x24)]) C dX3_widthOf_91 rfl (by decide) rfl ?_
    obtain ⟨x69, ex69, h70⟩ := lt1_inv h66; clear h66
    refine b_iinc (v := x69) (lv' := [(6, .int x69), (2, .long x62), (7, .long x62), (0, .ref (ad 0)), (1, .int x20), (4, .int x22), (5, .int x23)]) C 6 dX3_widthOf_92 rfl (by rw [ex69]; rfl) (by decide) rfl ?_
    refine b_goto (tgt := 26) C dX3_widthOf_95 (by decide) ?_
    exact b_sub [3, 4, 1, 5, 6, 0] rfl (hq26 _ _ _ _ _ _ h70)
theorem wX3_widthOf_14 {l : Launch} {p : Program} {e : Env} {s : State} {m : MethodId} {args : Array Value} {below : List Frame} {meth : Method} {c : Code} {D : va_G} {A : Nat → Prop} {ad : Nat → Nat} {ca : Nat → ClassId} {rf : Int64} {σf : St} (C : Cb p s m args meth c RX3 cX3_widthOf 9) (X : Cx s D A (wM ad ca) (tyM ca)) (hr : meth.sig.returnType = (some .long)) {N : Nat} {q104 : St → Int32 → Int64 → Int32 → Option (Int64 × St)} (hq104 : ∀ (σ : St) (y0 : Int32) (y1 : Int64) (y2 : Int32), q104 σ y0 y1 y2 = some (rf, σf) → bW p l e rmX3_widthOf s m args below meth c 0 0 (MQ below (Qw D (wM ad ca) σf (some (.long rf)) A) args s 0 0 A) 9 (wd D A (wM ad ca) s σ) 104 [(0, .ref (ad 0)), (1, .int y0), (2, .long y1), (4, .int y2)] []) : ∀ n : Nat, ∀ (σ : St) (y0 : Int32) (y1 : Int64) (y2 : Int32) (y3 : Int32), fX3_widthOf_14 N q104 n σ y0 y1 y2 y3 = some (rf, σf) → bW p l e rmX3_widthOf s m args below meth c 0 0 (MQ below (Qw D (wM ad ca) σf (some (.long rf)) A) args s 0 0 A) 9 (wd D A (wM ad ca) s σ) 14 [(0, .ref (ad 0)), (1, .int y0), (2, .long y1), (4, .int y2), (5, .int y3)] [] := by
  intro n
  induction n with
  | zero => intro σ15 x11 x12 x13 x14 h16; exact nn h16
  | succ n hq14 =>
    intro σ15 x11 x12 x13 x14 h16
    replace h16 : fX3_widthOf_14b N q104 (fX3_widthOf_14 N q104 n) σ15 x11 x12 x13 x14 = some (rf, σf) := h16
    refine b_iload C 4 dX3_widthOf_14 rfl ?_
    refine b_aload_n C 0 dX3_widthOf_16 rfl rfl ?_
    refine gX3_50 C X dX3_widthOf_17 ?_
    refine b_icmp_ge (tgt := 104) C dX3_widthOf_20 (by decide) (fun c17 => ?_) (fun c17 => ?_)
    · have h18 := ipos h16 c17; clear h16
      exact b_sub [0, 1, 2, 3] rfl (hq104 _ _ _ _ h18)
    have h19 := ineg h16 c17; clear h16
    refine b_iconst (v := (0 : Int32)) C dX3_widthOf_23 (by decide) ?_
    refine b_istore (lv' := [(6, .int (0 : Int32)), (0, .ref (ad 0)), (1, .int x11), (2, .long x12), (4, .int x13), (5, .int x14)]) C dX3_widthOf_24 (by decide) rfl ?_
    refine b_sub [1, 2, 3, 4, 5, 0] rfl (wX3_widthOf_26 C X hr (fun σ75 x71 x72 x73 x74 h76 => ?_) _ _ _ _ _ _ _ h19)
    obtain ⟨x77, ex77, h78⟩ := lt1_inv h76; clear h76
    refine b_iinc (v := x77) (lv' := [(5, .int x77), (0, .ref (ad 0)), (1, .int x71), (2, .long x72), (4, .int x73)]) C 4 dX3_widthOf_98 rfl (by rw [ex77]; rfl) (by decide) rfl ?_
    refine b_goto (tgt := 14) C dX3_widthOf_101 (by decide) ?_
    exact b_sub [1, 2, 3, 4, 0] rfl (hq14 _ _ _ _ _ h78)
theorem wX3_widthOf_5 {l : Launch} {p : Program} {e : Env} {s : State} {m : MethodId} {args : Array Value} {below : List Frame} {meth : Method} {c : Code} {D : va_G} {A : Nat → Prop} {ad : Nat → Nat} {ca : Nat → ClassId} {rf : Int64} {σf : St} (C : Cb p s m args meth c RX3 cX3_widthOf 9) (X : Cx s D A (wM ad ca) (tyM ca)) (hr : meth.sig.returnType = (some .long)) {N : Nat} {q110 : St → Int64 → Option (Int64 × St)} (hq110 : ∀ (σ : St) (y0 : Int64), q110 σ y0 = some (rf, σf) → bW p l e rmX3_widthOf s m args below meth c 0 0 (MQ below (Qw D (wM ad ca) σf (some (.long rf)) A) args s 0 0 A) 9 (wd D A (wM ad ca) s σ) 110 [(2, .long y0)] []) : ∀ n : Nat, ∀ (σ : St) (y0 : Int32) (y1 : Int64) (y2 : Int32), fX3_widthOf_5 N q110 n σ y0 y1 y2 = some (rf, σf) → bW p l e rmX3_widthOf s m args below meth c 0 0 (MQ below (Qw D (wM ad ca) σf (some (.long rf)) A) args s 0 0 A) 9 (wd D A (wM ad ca) s σ) 5 [(0, .ref (ad 0)), (1, .int y0), (2, .long y1), (4, .int y2)] [] := by
  intro n
  induction n with
  | zero => intro σ6 x3 x4 x5 h7; exact nn h7
  | succ n hq5 =>
    intro σ6 x3 x4 x5 h7
    replace h7 : fX3_widthOf_5b N q110 (fX3_widthOf_5 N q110 n) σ6 x3 x4 x5 = some (rf, σf) := h7
    refine b_iload C 3 dX3_widthOf_5 rfl ?_
    refine b_iconst (v := (2 : Int32)) C dX3_widthOf_7 (by decide) ?_
    refine b_icmp_ge (tgt := 110) C dX3_widthOf_8 (by decide) (fun c8 => ?_) (fun c8 => ?_)
    · have h9 := ipos h7 c8; clear h7
      exact b_sub [2] rfl (hq110 _ _ h9)
    have h10 := ineg h7 c8; clear h7
    refine b_iconst (v := (0 : Int32)) C dX3_widthOf_11 (by decide) ?_
    refine b_istore (lv' := [(5, .int (0 : Int32)), (0, .ref (ad 0)), (1, .int x3), (2, .long x4), (4, .int x5)]) C dX3_widthOf_12 (by decide) rfl ?_
    refine b_sub [1, 2, 3, 4, 0] rfl (wX3_widthOf_14 C X hr (fun σ82 x79 x80 x81 h83 => ?_) _ _ _ _ _ _ h10)
    obtain ⟨x84, ex84, h85⟩ := lt1_inv h83; clear h83
    refine b_iinc (v := x84) (lv' := [(4, .int x84), (0, .ref (ad 0)), (1, .int x79), (2, .long x80)]) C 3 dX3_widthOf_104 rfl (by rw [ex84]; rfl) (by decide) rfl ?_
    refine b_goto (tgt := 5) C dX3_widthOf_107 (by decide) ?_
    exact b_sub [1, 2, 3, 0] rfl (hq5 _ _ _ _ h85)
theorem ctX3_widthOf {l : Launch} {ad : Nat → Nat} {ca : Nat → ClassId} {N : Nat} {σ : St} {a1 : Int32} {rf : Int64} {σf : St} (h : fX3_widthOf N σ a1 = some (rf, σf)) : Cw l yX3_widthOf cX3_widthOf 9 (some .long) rmX3_widthOf [.ref (ad 0), .int a1] (wM ad ca) (tyM ca) σ (some (.long rf)) σf := by
  refine Cw_of (by decide) (sameM ad ca) (Nat.le_of_ble_eq_true rfl) ?_
  intro p e s m args below meth c D A C X hr
  replace C : Cb p s m args meth c RX3 cX3_widthOf 9 := C
  have h2 := h; clear h
  refine b_sub (lv' := [(0, .ref (ad 0)), (1, .int a1)]) [0, 1] rfl ?_
  refine b_lconst (v := (0 : Int64)) C dX3_widthOf_0 (by decide) ?_
  refine b_lstore_n (lv' := [(2, .long (0 : Int64)), (0, .ref (ad 0)), (1, .int a1)]) C dX3_widthOf_1 rfl (by decide) rfl ?_
  refine b_iconst (v := (0 : Int32)) C dX3_widthOf_2 (by decide) ?_
  refine b_istore (lv' := [(4, .int (0 : Int32)), (2, .long (0 : Int64)), (0, .ref (ad 0)), (1, .int a1)]) C dX3_widthOf_3 (by decide) rfl ?_
  refine b_sub [2, 3, 1, 0] rfl (wX3_widthOf_5 C X hr (fun σ87 x86 h88 => ?_) _ _ _ _ _ h2)
  refine b_lload_n C 0 dX3_widthOf_110 rfl rfl ?_
  obtain ⟨rfl, rfl⟩ := so2 h88
  exact b_lret C dX3_widthOf_111 hr
def rmX3_isGoal : Room := { frames := 1, cells := 0, slots := 0, locals := 25 }
def fX3_isGoal (a1 : Int32) (a2 : Int32) (a3 : Int32) : Option Int32 :=
  bd0 (fX3_within (a1.toInt64) (0 : Int64) (1000 : Int64)) fun r6 =>
  if r6 = (0 : Int32) then (
  some (0 : Int32))
  else (
  bd0 (fX3_within (a2.toInt64) (1 : Int64) (1000 : Int64)) fun r11 =>
  if r11 = (0 : Int32) then (
  some (0 : Int32))
  else (
  bd0 (fX3_within (a3.toInt64) (0 : Int64) (60 : Int64)) fun r16 =>
  if r16 = (0 : Int32) then (
  some (0 : Int32))
  else (
  some (1 : Int32))))
theorem ctX3_isGoal {l : Launch} {a1 : Int32} {a2 : Int32} {a3 : Int32} {rf : Int32} (h : fX3_isGoal a1 a2 a3 = some rf) : Cs l yX3_isGoal cX3_isGoal 3 (some .boolean) rmX3_isGoal [.int a1, .int a2, .int a3] (some (.int rf)) := by
  refine Cs_of (by decide +kernel) (Nat.le_of_ble_eq_true rfl) ?_
  intro p e s m args below meth c C hr
  replace C : Cb p s m args meth c RX3 cX3_isGoal 3 := C
  have h4 := h; clear h
  refine b_sub (lv' := [(0, .int a1), (1, .int a2), (2, .int a3)]) [0, 1, 2] rfl ?_
  refine b_iload_n C 0 dX3_isGoal_0 rfl rfl ?_
  refine b_i2l C dX3_isGoal_1 ?_
  refine b_lconst (v := (0 : Int64)) C dX3_isGoal_2 (by decide) ?_
  refine b_ldc2 (v := (1000 : Int64)) C dX3_isGoal_3 kc_X3_103 ?_
  obtain ⟨r6, ec5, h5⟩ := bd0_inv h4; clear h4
  refine b_callSi (rest := []) C dX3_isGoal_6 (ctX3_within ec5) mf_X3_within ms_X3_within kl_X3_71 rfl ⟨rfl, rfl⟩ ⟨Nat.le_of_ble_eq_true rfl, Nat.le_of_ble_eq_true rfl⟩ ⟨Nat.zero_le _, Nat.zero_le _⟩ rfl (Nat.le_of_ble_eq_true rfl) ?_
  refine b_if_eq (tgt := 40) C dX3_isGoal_9 (by decide) (fun c7 => ?_) (fun c7 => ?_)
  · have h8 := ipos h5 c7; clear h5
    refine b_iconst (v := (0 : Int32)) C dX3_isGoal_40 (by decide) ?_
    obtain rfl := so1 h8
    exact s_zret C dX3_isGoal_41 hr rfl
  have h9 := ineg h5 c7; clear h5
  refine b_iload_n C 1 dX3_isGoal_12 rfl rfl ?_
  refine b_i2l C dX3_isGoal_13 ?_
  refine b_lconst (v := (1 : Int64)) C dX3_isGoal_14 (by decide) ?_
  refine b_ldc2 (v := (1000 : Int64)) C dX3_isGoal_15 kc_X3_103 ?_
  obtain ⟨r11, ec10, h10⟩ := bd0_inv h9; clear h9
  refine b_callSi (rest := []) C dX3_isGoal_18 (ctX3_within ec10) mf_X3_within ms_X3_within kl_X3_71 rfl ⟨rfl, rfl⟩ ⟨Nat.le_of_ble_eq_true rfl, Nat.le_of_ble_eq_true rfl⟩ ⟨Nat.zero_le _, Nat.zero_le _⟩ rfl (Nat.le_of_ble_eq_true rfl) ?_
  refine b_if_eq (tgt := 40) C dX3_isGoal_21 (by decide) (fun c12 => ?_) (fun c12 => ?_)
  · have h13 := ipos h10 c12; clear h10
    refine b_iconst (v := (0 : Int32)) C dX3_isGoal_40 (by decide) ?_
    obtain rfl := so1 h13
    exact s_zret C dX3_isGoal_41 hr rfl
  have h14 := ineg h10 c12; clear h10
  refine b_iload_n C 2 dX3_isGoal_24 rfl rfl ?_
  refine b_i2l C dX3_isGoal_25 ?_
  refine b_lconst (v := (0 : Int64)) C dX3_isGoal_26 (by decide) ?_
  refine b_ldc2 (v := (60 : Int64)) C dX3_isGoal_27 kc_X3_178 ?_
  obtain ⟨r16, ec15, h15⟩ := bd0_inv h14; clear h14
  refine b_callSi (rest := []) C dX3_isGoal_30 (ctX3_within ec15) mf_X3_within ms_X3_within kl_X3_71 rfl ⟨rfl, rfl⟩ ⟨Nat.le_of_ble_eq_true rfl, Nat.le_of_ble_eq_true rfl⟩ ⟨Nat.zero_le _, Nat.zero_le _⟩ rfl (Nat.le_of_ble_eq_true rfl) ?_
  refine b_if_eq (tgt := 40) C dX3_isGoal_33 (by decide) (fun c17 => ?_) (fun c17 => ?_)
  · have h18 := ipos h15 c17; clear h15
    refine b_iconst (v := (0 : Int32)) C dX3_isGoal_40 (by decide) ?_
    obtain rfl := so1 h18
    exact s_zret C dX3_isGoal_41 hr rfl
  have h19 := ineg h15 c17; clear h15
  refine b_iconst (v := (1 : Int32)) C dX3_isGoal_36 (by decide) ?_
  refine b_goto (tgt := 41) C dX3_isGoal_37 (by decide) ?_
  obtain rfl := so1 h19
  exact s_zret C dX3_isGoal_41 hr rfl
def rmX3_goTo : Room := { frames := 5, cells := 0, slots := 0, locals := 130 }
def fX3_goTo_32b (N : Nat) (q91 : St → Int32 → Int32 → Option (Int32 × St)) (q32 : St → Int32 → Int32 → Int32 → Int32 → Int32 → Option (Int32 × St)) (σ23 : St) (x18 : Int32) (x19 : Int32) (x20 : Int32) (x21 : Int32) (x22 : Int32) : Option (Int32 × St) :=
  if x22 = (0 : Int32) then (
  if x20 ≤ x21 then (
  q91 σ23 x21 x22)
  else (
  if (60 : Int32) ≤ (gI σ23 3) then (
  q91 σ23 x21 x22)
  else (
  bd0 (fX3_round N σ23) fun σ35 =>
  lt1 (x21 + (1 : Int32)) fun x36 =>
  bd2 (fX3_widthOf N σ35 (gI σ35 3)) fun r40 σ39 =>
  if ((x18.toInt64) * (gJ σ39 0)) < (r40 * (x19.toInt64)) then (
  q32 σ39 x18 x19 x20 x36 (0 : Int32))
  else (
  q32 σ39 x18 x19 x20 x36 (1 : Int32)))))
  else (
  q91 σ23 x21 x22)
def fX3_goTo_32 (N : Nat) (q91 : St → Int32 → Int32 → Option (Int32 × St)) : Nat → St → Int32 → Int32 → Int32 → Int32 → Int32 → Option (Int32 × St)
  | 0, _, _, _, _, _, _ => none
  | n + 1, σ, x18, x19, x20, x21, x22 => fX3_goTo_32b N q91 (fX3_goTo_32 N q91 n) σ x18 x19 x20 x21 x22
def fX3_goTo_30 (N : Nat) (σ16 : St) (x11 : Int32) (x12 : Int32) (x13 : Int32) (x14 : Int32) (x15 : Int32) : Option (Int32 × St) :=
  fX3_goTo_32 N (fun σ46 x44 x45 =>
 if x45 = (0 : Int32) then (
  some ((-1 : Int32), σ46))
  else (
  some (x44, σ46))) N σ16 x11 x12 x13 x14 x15
def fX3_goTo (N : Nat) (σ : St) (a1 : Int32) (a2 : Int32) (a3 : Int32) : Option (Int32 × St) :=
  bd2 (fX3_widthOf N σ (gI σ 3)) fun r7 σ6 =>
  if ((a1.toInt64) * (gJ σ6 0)) < (r7 * (a2.toInt64)) then (
  fX3_goTo_30 N σ6 a1 a2 a3 (0 : Int32) (0 : Int32))
  else (
  fX3_goTo_30 N σ6 a1 a2 a3 (0 : Int32) (1 : Int32))
theorem wX3_goTo_32 {l : Launch} {p : Program} {e : Env} {s : State} {m : MethodId} {args : Array Value} {below : List Frame} {meth : Method} {c : Code} {D : va_G} {A : Nat → Prop} {ad : Nat → Nat} {ca : Nat → ClassId} {rf : Int32} {σf : St} (C : Cb p s m args meth c RX3 cX3_goTo 6) (X : Cx s D A (wM ad ca) (tyM ca)) (hr : meth.sig.returnType = (some .int)) {N : Nat} {q91 : St → Int32 → Int32 → Option (Int32 × St)} (hq91 : ∀ (σ : St) (y0 : Int32) (y1 : Int32), q91 σ y0 y1 = some (rf, σf) → bW p l e rmX3_goTo s m args below meth c 0 0 (MQ below (Qw D (wM ad ca) σf (some (.int rf)) A) args s 0 0 A) 6 (wd D A (wM ad ca) s σ) 91 [(4, .int y0), (5, .int y1)] []) : ∀ n : Nat, ∀ (σ : St) (y0 : Int32) (y1 : Int32) (y2 : Int32) (y3 : Int32) (y4 : Int32), fX3_goTo_32 N q91 n σ y0 y1 y2 y3 y4 = some (rf, σf) → bW p l e rmX3_goTo s m args below meth c 0 0 (MQ below (Qw D (wM ad ca) σf (some (.int rf)) A) args s 0 0 A) 6 (wd D A (wM ad ca) s σ) 32 [(0, .ref (ad 0)), (1, .int y0), (2, .int y1), (3, .int y2), (4, .int y3), (5, .int y4)] [] := by
  intro n
  induction n with
  | zero => intro σ23 x18 x19 x20 x21 x22 h24; exact nn h24
  | succ n hq32 =>
    intro σ23 x18 x19 x20 x21 x22 h24
    replace h24 : fX3_goTo_32b N q91 (fX3_goTo_32 N q91 n) σ23 x18 x19 x20 x21 x22 = some (rf, σf) := h24
    refine b_iload C 5 dX3_goTo_32 rfl ?_
    refine b_if_ne (tgt := 91) C dX3_goTo_34 (by decide) (fun c25 => ?_) (fun c25 => ?_)
    · have h26 := ineg h24 c25; clear h24
      exact b_sub [4, 5] rfl (hq91 _ _ _ h26)
    have h27 := ipos h24 c25; clear h24
    refine b_iload C 4 dX3_goTo_37 rfl ?_
    refine b_iload_n C 3 dX3_goTo_39 rfl rfl ?_
    refine b_icmp_ge (tgt := 91) C dX3_goTo_40 (by decide) (fun c28 => ?_) (fun c28 => ?_)
    · have h29 := ipos h27 c28; clear h27
      exact b_sub [4, 5] rfl (hq91 _ _ _ h29)
    have h30 := ineg h27 c28; clear h27
    refine b_aload_n C 0 dX3_goTo_43 rfl rfl ?_
    refine gX3_64 C X dX3_goTo_44 ?_
    refine b_bipush (v := (60 : Int32)) C dX3_goTo_47 (by decide) ?_
    refine b_icmp_ge (tgt := 91) C dX3_goTo_49 (by decide) (fun c31 => ?_) (fun c31 => ?_)
    · have h32 := ipos h30 c31; clear h30
      exact b_sub [4, 5] rfl (hq91 _ _ _ h32)
    have h33 := ineg h30 c31; clear h30
    refine b_aload_n C 0 dX3_goTo_52 rfl rfl ?_
    obtain ⟨σ35, ec34, h34⟩ := bd0_inv h33; clear h33
    refine b_callWv (rest := []) C (sameM ad ca) X dX3_goTo_53 (ctX3_round ec34) mf_X3_round mi_X3_round kl_X3_180 0 rfl rfl rfl rfl ⟨rfl, rfl⟩ ⟨Nat.le_of_ble_eq_true rfl, Nat.le_of_ble_eq_true rfl⟩ ⟨Nat.zero_le _, Nat.zero_le _⟩ rfl (Nat.le_of_ble_eq_true rfl) ?_
    obtain ⟨x36, ex36, h37⟩ := lt1_inv h34; clear h34
    refine b_iinc (v := x36) (lv' := [(4, .int x36), (0, .ref (ad 0)), (1, .int x18), (2, .int x19), (3, .int x20), (5, .int x22)]) C 4 dX3_goTo_56 rfl (by rw [ex36]; rfl) (by decide) rfl ?_
    refine b_aload_n C 1 dX3_goTo_59 rfl rfl ?_
    refine b_aload_n C 1 dX3_goTo_60 rfl rfl ?_
    refine gX3_64 C X dX3_goTo_61 ?_
    obtain ⟨r40, σ39, ec38, h38⟩ := bd2_inv h37; clear h37
    refine b_callWl (rest := []) C (sameM ad ca) X dX3_goTo_64 (ctX3_widthOf ec38) mf_X3_widthOf mi_X3_widthOf kl_X3_183 0 rfl rfl rfl rfl ⟨rfl, rfl⟩ ⟨Nat.le_of_ble_eq_true rfl, Nat.le_of_ble_eq_true rfl⟩ ⟨Nat.zero_le _, Nat.zero_le _⟩ rfl (Nat.le_of_ble_eq_true rfl) ?_
    refine b_iload_n C 3 dX3_goTo_67 rfl rfl ?_
    refine b_i2l C dX3_goTo_68 ?_
    refine b_lmul C dX3_goTo_69 ?_
    refine b_iload_n C 2 dX3_goTo_70 rfl rfl ?_
    refine b_i2l C dX3_goTo_71 ?_
    refine b_aload_n C 1 dX3_goTo_72 rfl rfl ?_
    refine gX3_57 C X dX3_goTo_73 ?_
    refine b_lmul C dX3_goTo_76 ?_
    refine b_lc_gt (tgt := 85) C dX3_goTo_77 dX3_goTo_78 (by decide) (fun c41 => ?_) (fun c41 => ?_)
    · have h42 := ipos h38 c41; clear h38
      refine b_iconst (v := (0 : Int32)) C dX3_goTo_85 (by decide) ?_
      refine b_istore (lv' := [(5, .int (0 : Int32)), (4, .int x36), (0, .ref (ad 0)), (1, .int x18), (2, .int x19), (3, .int x20)]) C dX3_goTo_86 (by decide) rfl ?_
      refine b_goto (tgt := 32) C dX3_goTo_88 (by decide) ?_
      exact b_sub [2, 3, 4, 5, 1, 0] rfl (hq32 _ _ _ _ _ _ h42)
    have h43 := ineg h38 c41; clear h38
    refine b_iconst (v := (1 : Int32)) C dX3_goTo_81 (by decide) ?_
    refine b_goto (tgt := 86) C dX3_goTo_82 (by decide) ?_
    refine b_istore (lv' := [(5, .int (1 : Int32)), (4, .int x36), (0, .ref (ad 0)), (1, .int x18), (2, .int x19), (3, .int x20)]) C dX3_goTo_86 (by decide) rfl ?_
    refine b_goto (tgt := 32) C dX3_goTo_88 (by decide) ?_
    exact b_sub [2, 3, 4, 5, 1, 0] rfl (hq32 _ _ _ _ _ _ h43)
theorem wX3_goTo_30 {l : Launch} {p : Program} {e : Env} {s : State} {m : MethodId} {args : Array Value} {below : List Frame} {meth : Method} {c : Code} {D : va_G} {A : Nat → Prop} {ad : Nat → Nat} {ca : Nat → ClassId} {rf : Int32} {σf : St} (C : Cb p s m args meth c RX3 cX3_goTo 6) (X : Cx s D A (wM ad ca) (tyM ca)) (hr : meth.sig.returnType = (some .int)) {N : Nat} : ∀ (σ : St) (y0 : Int32) (y1 : Int32) (y2 : Int32) (y3 : Int32) (y4 : Int32), fX3_goTo_30 N σ y0 y1 y2 y3 y4 = some (rf, σf) → bW p l e rmX3_goTo s m args below meth c 0 0 (MQ below (Qw D (wM ad ca) σf (some (.int rf)) A) args s 0 0 A) 6 (wd D A (wM ad ca) s σ) 30 [(0, .ref (ad 0)), (1, .int y0), (2, .int y1), (3, .int y2), (4, .int y3)] [.int y4] := by
  intro σ16 x11 x12 x13 x14 x15 h17
  refine b_istore (lv' := [(5, .int x15), (0, .ref (ad 0)), (1, .int x11), (2, .int x12), (3, .int x13), (4, .int x14)]) C dX3_goTo_30 (by decide) rfl ?_
  refine b_sub [1, 2, 3, 4, 5, 0] rfl (wX3_goTo_32 C X hr (fun σ46 x44 x45 h47 => ?_) _ _ _ _ _ _ _ h17)
  refine b_iload C 1 dX3_goTo_91 rfl ?_
  refine b_if_eq (tgt := 101) C dX3_goTo_93 (by decide) (fun c48 => ?_) (fun c48 => ?_)
  · have h49 := ipos h47 c48; clear h47
    refine b_iconst (v := (-1 : Int32)) C dX3_goTo_101 (by decide) ?_
    obtain ⟨rfl, rfl⟩ := so2 h49
    exact b_iret C dX3_goTo_102 hr
  have h50 := ineg h47 c48; clear h47
  refine b_iload C 0 dX3_goTo_96 rfl ?_
  refine b_goto (tgt := 102) C dX3_goTo_98 (by decide) ?_
  obtain ⟨rfl, rfl⟩ := so2 h50
  exact b_iret C dX3_goTo_102 hr
theorem ctX3_goTo {l : Launch} {ad : Nat → Nat} {ca : Nat → ClassId} {N : Nat} {σ : St} {a1 : Int32} {a2 : Int32} {a3 : Int32} {rf : Int32} {σf : St} (h : fX3_goTo N σ a1 a2 a3 = some (rf, σf)) : Cw l yX3_goTo cX3_goTo 6 (some .int) rmX3_goTo [.ref (ad 0), .int a1, .int a2, .int a3] (wM ad ca) (tyM ca) σ (some (.int rf)) σf := by
  refine Cw_of (by decide) (sameM ad ca) (Nat.le_of_ble_eq_true rfl) ?_
  intro p e s m args below meth c D A C X hr
  replace C : Cb p s m args meth c RX3 cX3_goTo 6 := C
  have h4 := h; clear h
  refine b_sub (lv' := [(0, .ref (ad 0)), (1, .int a1), (2, .int a2), (3, .int a3)]) [0, 1, 2, 3] rfl ?_
  refine b_iconst (v := (0 : Int32)) C dX3_goTo_0 (by decide) ?_
  refine b_istore (lv' := [(4, .int (0 : Int32)), (0, .ref (ad 0)), (1, .int a1), (2, .int a2), (3, .int a3)]) C dX3_goTo_1 (by decide) rfl ?_
  refine b_aload_n C 1 dX3_goTo_3 rfl rfl ?_
  refine b_aload_n C 1 dX3_goTo_4 rfl rfl ?_
  refine gX3_64 C X dX3_goTo_5 ?_
  obtain ⟨r7, σ6, ec5, h5⟩ := bd2_inv h4; clear h4
  refine b_callWl (rest := []) C (sameM ad ca) X dX3_goTo_8 (ctX3_widthOf ec5) mf_X3_widthOf mi_X3_widthOf kl_X3_183 0 rfl rfl rfl rfl ⟨rfl, rfl⟩ ⟨Nat.le_of_ble_eq_true rfl, Nat.le_of_ble_eq_true rfl⟩ ⟨Nat.zero_le _, Nat.zero_le _⟩ rfl (Nat.le_of_ble_eq_true rfl) ?_
  refine b_iload_n C 3 dX3_goTo_11 rfl rfl ?_
  refine b_i2l C dX3_goTo_12 ?_
  refine b_lmul C dX3_goTo_13 ?_
  refine b_iload_n C 2 dX3_goTo_14 rfl rfl ?_
  refine b_i2l C dX3_goTo_15 ?_
  refine b_aload_n C 1 dX3_goTo_16 rfl rfl ?_
  refine gX3_57 C X dX3_goTo_17 ?_
  refine b_lmul C dX3_goTo_20 ?_
  refine b_lc_gt (tgt := 29) C dX3_goTo_21 dX3_goTo_22 (by decide) (fun c8 => ?_) (fun c8 => ?_)
  · have h9 := ipos h5 c8; clear h5
    refine b_iconst (v := (0 : Int32)) C dX3_goTo_29 (by decide) ?_
    exact b_sub [1, 2, 3, 4, 0] rfl (wX3_goTo_30 C X hr _ _ _ _ _ _ h9)
  have h10 := ineg h5 c8; clear h5
  refine b_iconst (v := (1 : Int32)) C dX3_goTo_25 (by decide) ?_
  refine b_goto (tgt := 30) C dX3_goTo_26 (by decide) ?_
  exact b_sub [1, 2, 3, 4, 0] rfl (wX3_goTo_30 C X hr _ _ _ _ _ _ h10)
