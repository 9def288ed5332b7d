def rmX3_begin : Room := { frames := 0, cells := 0, slots := 0, locals := 0 }
def fX3_begin_29b (N : Nat) (q58 : St → Option St) (q29 : St → Int32 → Option St) (σ16 : St) (x15 : Int32) : Option St :=
  if (20 : Int32) ≤ x15 then (
  q58 σ16)
  else (
  if (x15 < 0 ∨ 20 ≤ (x15).toNatClampNeg) then none else
  lt1 (sG σ16 0 (vp_updL (gG σ16 0) (x15).toNatClampNeg (0 : Int64))) fun σ23 =>
  if (x15 < 0 ∨ 1220 ≤ (x15).toNatClampNeg) then none else
  lt1 (sG σ23 4 (vp_updL (gG σ23 4) (x15).toNatClampNeg (0 : Int64))) fun σ27 =>
  lt1 (x15 + (1 : Int32)) fun x29 =>
  q29 σ27 x29)
def fX3_begin_29 (N : Nat) (q58 : St → Option St) : Nat → St → Int32 → Option St
  | 0, _, _ => none
  | n + 1, σ, x15 => fX3_begin_29b N q58 (fX3_begin_29 N q58 n) σ x15
def fX3_begin_61b (N : Nat) (q90 : St → Option St) (q61 : St → Int32 → Option St) (σ34 : St) (x33 : Int32) : Option St :=
  if (10 : Int32) ≤ x33 then (
  q90 σ34)
  else (
  if (x33 < 0 ∨ 10 ≤ (x33).toNatClampNeg) then none else
  lt1 (sF σ34 0 (upd (gF σ34 0) (x33).toNatClampNeg (0 : Int32))) fun σ41 =>
  if (x33 < 0 ∨ 10 ≤ (x33).toNatClampNeg) then none else
  lt1 (sG σ41 1 (vp_updL (gG σ41 1) (x33).toNatClampNeg (0 : Int64))) fun σ45 =>
  lt1 (x33 + (1 : Int32)) fun x47 =>
  q61 σ45 x47)
def fX3_begin_61 (N : Nat) (q90 : St → Option St) : Nat → St → Int32 → Option St
  | 0, _, _ => none
  | n + 1, σ, x33 => fX3_begin_61b N q90 (fX3_begin_61 N q90 n) σ x33
def fX3_begin_93b (N : Nat) (q130 : St → Option St) (q93 : St → Int32 → Option St) (σ52 : St) (x51 : Int32) : Option St :=
  if (100 : Int32) ≤ x51 then (
  q130 σ52)
  else (
  if (x51 < 0 ∨ 100 ≤ (x51).toNatClampNeg) then none else
  lt1 (sG σ52 2 (vp_updL (gG σ52 2) (x51).toNatClampNeg (0 : Int64))) fun σ59 =>
  if (x51 < 0 ∨ 100 ≤ (x51).toNatClampNeg) then none else
  lt1 (sG σ59 3 (vp_updL (gG σ59 3) (x51).toNatClampNeg (0 : Int64))) fun σ63 =>
  if (x51 < 0 ∨ 100 ≤ (x51).toNatClampNeg) then none else
  lt1 (sF σ63 1 (upd (gF σ63 1) (x51).toNatClampNeg (0 : Int32))) fun σ67 =>
  lt1 (x51 + (1 : Int32)) fun x69 =>
  q93 σ67 x69)
def fX3_begin_93 (N : Nat) (q130 : St → Option St) : Nat → St → Int32 → Option St
  | 0, _, _ => none
  | n + 1, σ, x51 => fX3_begin_93b N q130 (fX3_begin_93 N q130 n) σ x51
def fX3_begin (N : Nat) (σ : St) (a1 : Int32) (a2 : Int32) (a3 : Int32) : Option St :=
  lt1 (sI σ 0 a1) fun σ5 =>
  lt1 (sI σ5 1 a2) fun σ7 =>
  lt1 (sJ σ7 0 (a3.toInt64)) fun σ9 =>
  lt1 (sI σ9 2 (0 : Int32)) fun σ11 =>
  lt1 (sI σ11 3 (0 : Int32)) fun σ13 =>
  fX3_begin_29 N (fun σ31 =>
 fX3_begin_61 N (fun σ49 =>
 fX3_begin_93 N (fun σ71 =>
 some σ71) N σ49 (0 : Int32)) N σ31 (0 : Int32)) N σ13 (0 : Int32)
theorem wX3_begin_29 {l : Launch} {p : Program} {e : Env} {s : State} {m : MethodId} {args : Array Value} {below : List Frame} {meth : Method} {c : Code} {D : va_G} {A : Nat → Prop} {ad : Nat → Nat} {ca : Nat → ClassId} {σf : St} (C : Cb p s m args meth c RX3 cX3_begin 5) (X : Cx s D A (wM ad ca) (tyM ca)) (hr : meth.sig.returnType = none) {N : Nat} {q58 : St → Option St} (hq58 : ∀ (σ : St), q58 σ = some σf → bW p l e rmX3_begin s m args below meth c 0 0 (MQ below (Qw D (wM ad ca) σf none A) args s 0 0 A) 5 (wd D A (wM ad ca) s σ) 58 [(0, .ref (ad 0))] []) : ∀ n : Nat, ∀ (σ : St) (y0 : Int32), fX3_begin_29 N q58 n σ y0 = some σf → bW p l e rmX3_begin s m args below meth c 0 0 (MQ below (Qw D (wM ad ca) σf none A) args s 0 0 A) 5 (wd D A (wM ad ca) s σ) 29 [(0, .ref (ad 0)), (4, .int y0)] [] := by
  intro n
  induction n with
  | zero => intro σ16 x15 h17; exact nn h17
  | succ n hq29 =>
    intro σ16 x15 h17
    replace h17 : fX3_begin_29b N q58 (fX3_begin_29 N q58 n) σ16 x15 = some σf := h17
    refine b_iload C 1 dX3_begin_29 rfl ?_
    refine b_bipush (v := (20 : Int32)) C dX3_begin_31 (by decide) ?_
    refine b_icmp_ge (tgt := 58) C dX3_begin_33 (by decide) (fun c18 => ?_) (fun c18 => ?_)
    · have h19 := ipos h17 c18; clear h17
      exact b_sub [0] rfl (hq58 _ h19)
    have h20 := ineg h17 c18; clear h17
    refine b_aload_n C 0 dX3_begin_36 rfl rfl ?_
    refine gX3_7 C X dX3_begin_37 ?_
    refine b_iload C 1 dX3_begin_40 rfl ?_
    refine b_lconst (v := (0 : Int64)) C dX3_begin_42 (by decide) ?_
    obtain ⟨g22, h21⟩ := gdn h20; clear h20
    refine aM_1 C X g22 dX3_begin_43 ?_
    obtain ⟨σ23, eσ23, h24⟩ := lt1_inv h21; clear h21
    refine b_nmS eσ23 ?_
    refine b_aload_n C 0 dX3_begin_44 rfl rfl ?_
    refine gX3_29 C X dX3_begin_45 ?_
    refine b_iload C 1 dX3_begin_48 rfl ?_
    refine b_lconst (v := (0 : Int64)) C dX3_begin_50 (by decide) ?_
    obtain ⟨g26, h25⟩ := gdn h24; clear h24
    refine aM_7 C X g26 dX3_begin_51 ?_
    obtain ⟨σ27, eσ27, h28⟩ := lt1_inv h25; clear h25
    refine b_nmS eσ27 ?_
    obtain ⟨x29, ex29, h30⟩ := lt1_inv h28; clear h28
    refine b_iinc (v := x29) (lv' := [(4, .int x29), (0, .ref (ad 0))]) C 1 dX3_begin_52 rfl (by rw [ex29]; rfl) (by decide) rfl ?_
    refine b_goto (tgt := 29) C dX3_begin_55 (by decide) ?_
    exact b_sub [1, 0] rfl (hq29 _ _ h30)
theorem wX3_begin_61 {l : Launch} {p : Program} {e : Env} {s : State} {m : MethodId} {args : Array Value} {below : List Frame} {meth : Method} {c : Code} {D : va_G} {A : Nat → Prop} {ad : Nat → Nat} {ca : Nat → ClassId} {σf : St} (C : Cb p s m args meth c RX3 cX3_begin 5) (X : Cx s D A (wM ad ca) (tyM ca)) (hr : meth.sig.returnType = none) {N : Nat} {q90 : St → Option St} (hq90 : ∀ (σ : St), q90 σ = some σf → bW p l e rmX3_begin s m args below meth c 0 0 (MQ below (Qw D (wM ad ca) σf none A) args s 0 0 A) 5 (wd D A (wM ad ca) s σ) 90 [(0, .ref (ad 0))] []) : ∀ n : Nat, ∀ (σ : St) (y0 : Int32), fX3_begin_61 N q90 n σ y0 = some σf → bW p l e rmX3_begin s m args below meth c 0 0 (MQ below (Qw D (wM ad ca) σf none A) args s 0 0 A) 5 (wd D A (wM ad ca) s σ) 61 [(0, .ref (ad 0)), (4, .int y0)] [] := by
  intro n
  induction n with
  | zero => intro σ34 x33 h35; exact nn h35
  | succ n hq61 =>
    intro σ34 x33 h35
    replace h35 : fX3_begin_61b N q90 (fX3_begin_61 N q90 n) σ34 x33 = some σf := h35
    refine b_iload C 1 dX3_begin_61 rfl ?_
    refine b_bipush (v := (10 : Int32)) C dX3_begin_63 (by decide) ?_
    refine b_icmp_ge (tgt := 90) C dX3_begin_65 (by decide) (fun c36 => ?_) (fun c36 => ?_)
    · have h37 := ipos h35 c36; clear h35
      exact b_sub [0] rfl (hq90 _ h37)
    have h38 := ineg h35 c36; clear h35
    refine b_aload_n C 0 dX3_begin_68 rfl rfl ?_
    refine gX3_13 C X dX3_begin_69 ?_
    refine b_iload C 1 dX3_begin_72 rfl ?_
    refine b_iconst (v := (0 : Int32)) C dX3_begin_74 (by decide) ?_
    obtain ⟨g40, h39⟩ := gdn h38; clear h38
    refine aM_2 C X g40 dX3_begin_75 ?_
    obtain ⟨σ41, eσ41, h42⟩ := lt1_inv h39; clear h39
    refine b_nmS eσ41 ?_
    refine b_aload_n C 0 dX3_begin_76 rfl rfl ?_
    refine gX3_17 C X dX3_begin_77 ?_
    refine b_iload C 1 dX3_begin_80 rfl ?_
    refine b_lconst (v := (0 : Int64)) C dX3_begin_82 (by decide) ?_
    obtain ⟨g44, h43⟩ := gdn h42; clear h42
    refine aM_3 C X g44 dX3_begin_83 ?_
    obtain ⟨σ45, eσ45, h46⟩ := lt1_inv h43; clear h43
    refine b_nmS eσ45 ?_
    obtain ⟨x47, ex47, h48⟩ := lt1_inv h46; clear h46
    refine b_iinc (v := x47) (lv' := [(4, .int x47), (0, .ref (ad 0))]) C 1 dX3_begin_84 rfl (by rw [ex47]; rfl) (by decide) rfl ?_
    refine b_goto (tgt := 61) C dX3_begin_87 (by decide) ?_
    exact b_sub [1, 0] rfl (hq61 _ _ h48)
theorem wX3_begin_93 {l : Launch} {p : Program} {e : Env} {s : State} {m : MethodId} {args : Array Value} {below : List Frame} {meth : Method} {c : Code} {D : va_G} {A : Nat → Prop} {ad : Nat → Nat} {ca : Nat → ClassId} {σf : St} (C : Cb p s m args meth c RX3 cX3_begin 5) (X : Cx s D A (wM ad ca) (tyM ca)) (hr : meth.sig.returnType = none) {N : Nat} {q130 : St → Option St} (hq130 : ∀ (σ : St), q130 σ = some σf → bW p l e rmX3_begin s m args below meth c 0 0 (MQ below (Qw D (wM ad ca) σf none A) args s 0 0 A) 5 (wd D A (wM ad ca) s σ) 130 [] []) : ∀ n : Nat, ∀ (σ : St) (y0 : Int32), fX3_begin_93 N q130 n σ y0 = some σf → bW p l e rmX3_begin s m args below meth c 0 0 (MQ below (Qw D (wM ad ca) σf none A) args s 0 0 A) 5 (wd D A (wM ad ca) s σ) 93 [(0, .ref (ad 0)), (4, .int y0)] [] := by
  intro n
  induction n with
  | zero => intro σ52 x51 h53; exact nn h53
  | succ n hq93 =>
    intro σ52 x51 h53
    replace h53 : fX3_begin_93b N q130 (fX3_begin_93 N q130 n) σ52 x51 = some σf := h53
    refine b_iload C 1 dX3_begin_93 rfl ?_
    refine b_bipush (v := (100 : Int32)) C dX3_begin_95 (by decide) ?_
    refine b_icmp_ge (tgt := 130) C dX3_begin_97 (by decide) (fun c54 => ?_) (fun c54 => ?_)
    · have h55 := ipos h53 c54; clear h53
      exact b_sub [] rfl (hq130 _ h55)
    have h56 := ineg h53 c54; clear h53
    refine b_aload_n C 0 dX3_begin_100 rfl rfl ?_
    refine gX3_20 C X dX3_begin_101 ?_
    refine b_iload C 1 dX3_begin_104 rfl ?_
    refine b_lconst (v := (0 : Int64)) C dX3_begin_106 (by decide) ?_
    obtain ⟨g58, h57⟩ := gdn h56; clear h56
    refine aM_4 C X g58 dX3_begin_107 ?_
    obtain ⟨σ59, eσ59, h60⟩ := lt1_inv h57; clear h57
    refine b_nmS eσ59 ?_
    refine b_aload_n C 0 dX3_begin_108 rfl rfl ?_
    refine gX3_23 C X dX3_begin_109 ?_
    refine b_iload C 1 dX3_begin_112 rfl ?_
    refine b_lconst (v := (0 : Int64)) C dX3_begin_114 (by decide) ?_
    obtain ⟨g62, h61⟩ := gdn h60; clear h60
    refine aM_5 C X g62 dX3_begin_115 ?_
    obtain ⟨σ63, eσ63, h64⟩ := lt1_inv h61; clear h61
    refine b_nmS eσ63 ?_
    refine b_aload_n C 0 dX3_begin_116 rfl rfl ?_
    refine gX3_26 C X dX3_begin_117 ?_
    refine b_iload C 1 dX3_begin_120 rfl ?_
    refine b_iconst (v := (0 : Int32)) C dX3_begin_122 (by decide) ?_
    obtain ⟨g66, h65⟩ := gdn h64; clear h64
    refine aM_6 C X g66 dX3_begin_123 ?_
    obtain ⟨σ67, eσ67, h68⟩ := lt1_inv h65; clear h65
    refine b_nmS eσ67 ?_
    obtain ⟨x69, ex69, h70⟩ := lt1_inv h68; clear h68
    refine b_iinc (v := x69) (lv' := [(4, .int x69), (0, .ref (ad 0))]) C 1 dX3_begin_124 rfl (by rw [ex69]; rfl) (by decide) rfl ?_
    refine b_goto (tgt := 93) C dX3_begin_127 (by decide) ?_
    exact b_sub [1, 0] rfl (hq93 _ _ h70)
theorem ctX3_begin {l : Launch} {ad : Nat → Nat} {ca : Nat → ClassId} {N : Nat} {σ : St} {a1 : Int32} {a2 : Int32} {a3 : Int32} {σf : St} (h : fX3_begin N σ a1 a2 a3 = some σf) : Cw l yX3_begin cX3_begin 5 none rmX3_begin [.ref (ad 0), .int a1, .int a2, .int a3] (wM ad ca) (tyM ca) σ none σf := by
  refine Cw_of (by decide) (sameM ad ca) (Nat.le_of_ble_eq_true rfl) ?_
  intro p e s m args below meth c D A C X hr
  replace C : Cb p s m args meth c RX3 cX3_begin 5 := C
  have h4 := h; clear h
  refine b_sub (lv' := [(0, .ref (ad 0)), (1, .int a1), (2, .int a2), (3, .int a3)]) [0, 1, 2, 3] rfl ?_
  refine b_aload_n C 0 dX3_begin_0 rfl rfl ?_
  refine b_iload_n C 1 dX3_begin_1 rfl rfl ?_
  refine pX3_50 C X dX3_begin_2 ?_
  obtain ⟨σ5, eσ5, h6⟩ := lt1_inv h4; clear h4
  refine b_nmS eσ5 ?_
  refine b_aload_n C 0 dX3_begin_5 rfl rfl ?_
  refine b_iload_n C 2 dX3_begin_6 rfl rfl ?_
  refine pX3_54 C X dX3_begin_7 ?_
  obtain ⟨σ7, eσ7, h8⟩ := lt1_inv h6; clear h6
  refine b_nmS eσ7 ?_
  refine b_aload_n C 0 dX3_begin_10 rfl rfl ?_
  refine b_iload_n C 3 dX3_begin_11 rfl rfl ?_
  refine b_i2l C dX3_begin_12 ?_
  refine pX3_57 C X dX3_begin_13 ?_
  obtain ⟨σ9, eσ9, h10⟩ := lt1_inv h8; clear h8
  refine b_nmS eσ9 ?_
  refine b_aload_n C 0 dX3_begin_16 rfl rfl ?_
  refine b_iconst (v := (0 : Int32)) C dX3_begin_17 (by decide) ?_
  refine pX3_61 C X dX3_begin_18 ?_
  obtain ⟨σ11, eσ11, h12⟩ := lt1_inv h10; clear h10
  refine b_nmS eσ11 ?_
  refine b_aload_n C 0 dX3_begin_21 rfl rfl ?_
  refine b_iconst (v := (0 : Int32)) C dX3_begin_22 (by decide) ?_
  refine pX3_64 C X dX3_begin_23 ?_
  obtain ⟨σ13, eσ13, h14⟩ := lt1_inv h12; clear h12
  refine b_nmS eσ13 ?_
  refine b_iconst (v := (0 : Int32)) C dX3_begin_26 (by decide) ?_
  refine b_istore (lv' := [(4, .int (0 : Int32)), (0, .ref (ad 0)), (1, .int a1), (2, .int a2), (3, .int a3)]) C dX3_begin_27 (by decide) rfl ?_
  refine b_sub [1, 0] rfl (wX3_begin_29 C X hr (fun σ31 h32 => ?_) _ _ _ h14)
  refine b_iconst (v := (0 : Int32)) C dX3_begin_58 (by decide) ?_
  refine b_istore (lv' := [(4, .int (0 : Int32)), (0, .ref (ad 0))]) C dX3_begin_59 (by decide) rfl ?_
  refine b_sub [1, 0] rfl (wX3_begin_61 C X hr (fun σ49 h50 => ?_) _ _ _ h32)
  refine b_iconst (v := (0 : Int32)) C dX3_begin_90 (by decide) ?_
  refine b_istore (lv' := [(4, .int (0 : Int32)), (0, .ref (ad 0))]) C dX3_begin_91 (by decide) rfl ?_
  refine b_sub [1, 0] rfl (wX3_begin_93 C X hr (fun σ71 h72 => ?_) _ _ _ h50)
  obtain rfl := so1 h72
  exact b_vret C dX3_begin_130 hr
def rmX3_within : Room := { frames := 0, cells := 0, slots := 0, locals := 0 }
def fX3_within (a1 : Int64) (a2 : Int64) (a3 : Int64) : Option Int32 :=
  if a1 < a2 then (
  some (0 : Int32))
  else (
  if a3 < a1 then (
  some (0 : Int32))
  else (
  some (1 : Int32)))
theorem ctX3_within {l : Launch} {a1 : Int64} {a2 : Int64} {a3 : Int64} {rf : Int32} (h : fX3_within a1 a2 a3 = some rf) : Cs l yX3_within cX3_within 6 (some .boolean) rmX3_within [.long a1, .long a2, .long a3] (some (.int rf)) := by
  refine Cs_of (by decide +kernel) (Nat.le_of_ble_eq_true rfl) ?_
  intro p e s m args below meth c C hr
  replace C : Cb p s m args meth c RX3 cX3_within 6 := C
  have h4 := h; clear h
  refine b_sub (lv' := [(0, .long a1), (2, .long a2), (4, .long a3)]) [0, 1, 2] rfl ?_
  refine b_lload_n C 0 dX3_within_0 rfl rfl ?_
  refine b_lload_n C 1 dX3_within_1 rfl rfl ?_
  refine b_lc_lt (tgt := 17) C dX3_within_2 dX3_within_3 (by decide) (fun c5 => ?_) (fun c5 => ?_)
  · have h6 := ipos h4 c5; clear h4
    refine b_iconst (v := (0 : Int32)) C dX3_within_17 (by decide) ?_
    obtain rfl := so1 h6
    exact s_zret C dX3_within_18 hr rfl
  have h7 := ineg h4 c5; clear h4
  refine b_lload_n C 0 dX3_within_6 rfl rfl ?_
  refine b_lload C 2 dX3_within_7 rfl ?_
  refine b_lc_gt (tgt := 17) C dX3_within_9 dX3_within_10 (by decide) (fun c8 => ?_) (fun c8 => ?_)
  · have h9 := ipos h7 c8; clear h7
    refine b_iconst (v := (0 : Int32)) C dX3_within_17 (by decide) ?_
    obtain rfl := so1 h9
    exact s_zret C dX3_within_18 hr rfl
  have h10 := ineg h7 c8; clear h7
  refine b_iconst (v := (1 : Int32)) C dX3_within_13 (by decide) ?_
  refine b_goto (tgt := 18) C dX3_within_14 (by decide) ?_
  obtain rfl := so1 h10
  exact s_zret C dX3_within_18 hr rfl
def rmX3_lost : Room := { frames := 0, cells := 0, slots := 0, locals := 0 }
def fX3_lost : Option Int64 :=
  some (-9223372036854775808 : Int64)
theorem ctX3_lost {l : Launch} {rf : Int64} (h : fX3_lost = some rf) : Cs l yX3_lost cX3_lost 0 (some .long) rmX3_lost [] (some (.long rf)) := by
  refine Cs_of (by decide +kernel) (Nat.le_of_ble_eq_true rfl) ?_
  intro p e s m args below meth c C hr
  replace C : Cb p s m args meth c RX3 cX3_lost 0 := C
  have h1 := h; clear h
  refine b_sub (lv' := []) [] rfl ?_
  refine b_ldc2 (v := (-9223372036854775808 : Int64)) C dX3_lost_0 kc_X3_44 ?_
  obtain rfl := so1 h1
  exact s_lret C dX3_lost_3 hr
def rmX3_common : Room := { frames := 0, cells := 0, slots := 0, locals := 0 }
def fX3_common_17b (N : Nat) (q42 : Int64 → Option Int64) (q17 : Int64 → Int64 → Option Int64) (x10 : Int64) (x11 : Int64) : Option Int64 :=
  if x11 = (0 : Int64) then (
  q42 x10)
  else (
  if x11 = (0 : Int64) then none else
  lt1 (x10 - x10 / x11 * x11) fun x18 =>
  q17 x11 x18)
def fX3_common_17 (N : Nat) (q42 : Int64 → Option Int64) : Nat → Int64 → Int64 → Option Int64
  | 0, _, _ => none
  | n + 1, x10, x11 => fX3_common_17b N q42 (fX3_common_17 N q42 n) x10 x11
def fX3_common_12 (N : Nat) (x7 : Int64) (x8 : Int64) : Option Int64 :=
  fX3_common_17 N (fun x20 =>
 some x20) N x8 x7
def fX3_common (N : Nat) (a1 : Int64) (a2 : Int64) : Option Int64 :=
  if (0 : Int64) ≤ a1 then (
  fX3_common_12 N a2 a1)
  else (
  fX3_common_12 N a2 (-a1))
theorem wX3_common_17 {l : Launch} {p : Program} {e : Env} {s : State} {m : MethodId} {args : Array Value} {below : List Frame} {meth : Method} {c : Code} {rf : Int64} (C : Cb p s m args meth c RX3 cX3_common 10) (hr : meth.sig.returnType = (some .long)) {N : Nat} {q42 : Int64 → Option Int64} (hq42 : ∀ (y0 : Int64), q42 y0 = some rf → bW p l e rmX3_common s m args below meth c 0 0 (MQ below (Qs (some (.long rf))) args s 0 0 (fun _ => False)) 10 (wn s) 42 [(4, .long y0)] []) : ∀ n : Nat, ∀ (y0 : Int64) (y1 : Int64), fX3_common_17 N q42 n y0 y1 = some rf → bW p l e rmX3_common s m args below meth c 0 0 (MQ below (Qs (some (.long rf))) args s 0 0 (fun _ => False)) 10 (wn s) 17 [(4, .long y0), (6, .long y1)] [] := by
  intro n
  induction n with
  | zero => intro x10 x11 h12; exact nn h12
  | succ n hq17 =>
    intro x10 x11 h12
    replace h12 : fX3_common_17b N q42 (fX3_common_17 N q42 n) x10 x11 = some rf := h12
    refine b_lload C 1 dX3_common_17 rfl ?_
    refine b_lconst (v := (0 : Int64)) C dX3_common_19 (by decide) ?_
    refine b_lc_eq (tgt := 42) C dX3_common_20 dX3_common_21 (by decide) (fun c13 => ?_) (fun c13 => ?_)
    · have h14 := ipos h12 c13; clear h12
      exact b_sub [0] rfl (hq42 _ h14)
    have h15 := ineg h12 c13; clear h12
    refine b_lload C 0 dX3_common_24 rfl ?_
    refine b_lload C 1 dX3_common_26 rfl ?_
    obtain ⟨g17, h16⟩ := gdn h15; clear h15
    refine b_lrem C dX3_common_28 g17 ?_
    obtain ⟨x18, ex18, h19⟩ := lt1_inv h16; clear h16
    refine b_nmJ ex18 ?_
    refine b_lstore (lv' := [(8, .long x18), (4, .long x10), (6, .long x11)]) C dX3_common_29 (by decide) rfl ?_
    refine b_lload C 2 dX3_common_31 rfl ?_
    refine b_lstore (lv' := [(4, .long x11), (8, .long x18), (6, .long x11)]) C dX3_common_33 (by decide) rfl ?_
    refine b_lload C 1 dX3_common_35 rfl ?_
    refine b_lstore (lv' := [(6, .long x18), (4, .long x11), (8, .long x18)]) C dX3_common_37 (by decide) rfl ?_
    refine b_goto (tgt := 17) C dX3_common_39 (by decide) ?_
    exact b_sub [1, 0] rfl (hq17 _ _ h19)
theorem wX3_common_12 {l : Launch} {p : Program} {e : Env} {s : State} {m : MethodId} {args : Array Value} {below : List Frame} {meth : Method} {c : Code} {rf : Int64} (C : Cb p s m args meth c RX3 cX3_common 10) (hr : meth.sig.returnType = (some .long)) {N : Nat} : ∀ (y0 : Int64) (y1 : Int64), fX3_common_12 N y0 y1 = some rf → bW p l e rmX3_common s m args below meth c 0 0 (MQ below (Qs (some (.long rf))) args s 0 0 (fun _ => False)) 10 (wn s) 12 [(2, .long y0)] [.long y1] := by
  intro x7 x8 h9
  refine b_lstore (lv' := [(4, .long x8), (2, .long x7)]) C dX3_common_12 (by decide) rfl ?_
  refine b_lload_n C 1 dX3_common_14 rfl rfl ?_
  refine b_lstore (lv' := [(6, .long x7), (4, .long x8), (2, .long x7)]) C dX3_common_15 (by decide) rfl ?_
  refine b_sub [1, 0] rfl (wX3_common_17 C hr (fun x20 h21 => ?_) _ _ _ h9)
  refine b_lload C 0 dX3_common_42 rfl ?_
  obtain rfl := so1 h21
  exact s_lret C dX3_common_44 hr
theorem ctX3_common {l : Launch} {N : Nat} {a1 : Int64} {a2 : Int64} {rf : Int64} (h : fX3_common N a1 a2 = some rf) : Cs l yX3_common cX3_common 10 (some .long) rmX3_common [.long a1, .long a2] (some (.long rf)) := by
  refine Cs_of (by decide +kernel) (Nat.le_of_ble_eq_true rfl) ?_
  intro p e s m args below meth c C hr
  replace C : Cb p s m args meth c RX3 cX3_common 10 := C
  have h3 := h; clear h
  refine b_sub (lv' := [(0, .long a1), (2, .long a2)]) [0, 1] rfl ?_
  refine b_lload_n C 0 dX3_common_0 rfl rfl ?_
  refine b_lconst (v := (0 : Int64)) C dX3_common_1 (by decide) ?_
  refine b_lc_ge (tgt := 11) C dX3_common_2 dX3_common_3 (by decide) (fun c4 => ?_) (fun c4 => ?_)
  · have h5 := ipos h3 c4; clear h3
    refine b_lload_n C 0 dX3_common_11 rfl rfl ?_
    exact b_sub [1] rfl (wX3_common_12 C hr _ _ h5)
  have h6 := ineg h3 c4; clear h3
  refine b_lload_n C 0 dX3_common_6 rfl rfl ?_
  refine b_lneg C dX3_common_7 ?_
  refine b_goto (tgt := 12) C dX3_common_8 (by decide) ?_
  exact b_sub [1] rfl (wX3_common_12 C hr _ _ h6)
def rmX3_part : Room := { frames := 1, cells := 0, slots := 0, locals := 29 }
def fX3_part (N : Nat) (a1 : Int64) (a2 : Int64) (a3 : Int32) : Option Int64 :=
  bd0 (fX3_common N a1 a2) fun r6 =>
  if a3 = (0 : Int32) then (
  if r6 = (0 : Int64) then none else
  some (a1 / r6))
  else (
  if r6 = (0 : Int64) then none else
  some (a2 / r6))
theorem ctX3_part {l : Launch} {N : Nat} {a1 : Int64} {a2 : Int64} {a3 : Int32} {rf : Int64} (h : fX3_part N a1 a2 a3 = some rf) : Cs l yX3_part cX3_part 7 (some .long) rmX3_part [.long a1, .long a2, .int a3] (some (.long rf)) := by
  refine Cs_of (by decide +kernel) (Nat.le_of_ble_eq_true rfl) ?_
  intro p e s m args below meth c C hr
  replace C : Cb p s m args meth c RX3 cX3_part 7 := C
  have h4 := h; clear h
  refine b_sub (lv' := [(0, .long a1), (2, .long a2), (4, .int a3)]) [0, 1, 2] rfl ?_
  refine b_lload_n C 0 dX3_part_0 rfl rfl ?_
  refine b_lload_n C 1 dX3_part_1 rfl rfl ?_
  obtain ⟨r6, ec5, h5⟩ := bd0_inv h4; clear h4
  refine b_callSl (rest := []) C dX3_part_2 (ctX3_common ec5) mf_X3_common ms_X3_common kl_X3_46 rfl ⟨rfl, rfl⟩ ⟨Nat.le_of_ble_eq_true rfl, Nat.le_of_ble_eq_true rfl⟩ ⟨Nat.zero_le _, Nat.zero_le _⟩ rfl (Nat.le_of_ble_eq_true rfl) ?_
  refine b_lstore (lv' := [(5, .long r6), (0, .long a1), (2, .long a2), (4, .int a3)]) C dX3_part_5 (by decide) rfl ?_
  refine b_iload C 3 dX3_part_7 rfl ?_
  refine b_if_eq (tgt := 19) C dX3_part_9 (by decide) (fun c7 => ?_) (fun c7 => ?_)
  · have h8 := ipos h5 c7; clear h5
    refine b_lload_n C 1 dX3_part_19 rfl rfl ?_
    refine b_lload C 0 dX3_part_20 rfl ?_
    obtain ⟨g11, h10⟩ := gdn h8; clear h8
    refine b_ldiv C dX3_part_22 g11 ?_
    obtain rfl := so1 h10
    exact s_lret C dX3_part_23 hr
  have h9 := ineg h5 c7; clear h5
  refine b_lload_n C 2 dX3_part_12 rfl rfl ?_
  refine b_lload C 0 dX3_part_13 rfl ?_
  obtain ⟨g13, h12⟩ := gdn h9; clear h9
  refine b_ldiv C dX3_part_15 g13 ?_
  refine b_goto (tgt := 23) C dX3_part_16 (by decide) ?_
  obtain rfl := so1 h12
  exact s_lret C dX3_part_23 hr
def rmX3_down : Room := { frames := 0, cells := 0, slots := 0, locals := 0 }
def fX3_down (a1 : Int64) (a2 : Int64) : Option Int64 :=
  if a2 = (0 : Int64) then none else
  lt1 (a1 / a2) fun x6 =>
  if (x6 * a2) ≤ a1 then (
  some x6)
  else (
  some (x6 - (1 : Int64)))
theorem ctX3_down {l : Launch} {a1 : Int64} {a2 : Int64} {rf : Int64} (h : fX3_down a1 a2 = some rf) : Cs l yX3_down cX3_down 6 (some .long) rmX3_down [.long a1, .long a2] (some (.long rf)) := by
  refine Cs_of (by decide +kernel) (Nat.le_of_ble_eq_true rfl) ?_
  intro p e s m args below meth c C hr
  replace C : Cb p s m args meth c RX3 cX3_down 6 := C
  have h3 := h; clear h
  refine b_sub (lv' := [(0, .long a1), (2, .long a2)]) [0, 1] rfl ?_
  refine b_lload_n C 0 dX3_down_0 rfl rfl ?_
  refine b_lload_n C 1 dX3_down_1 rfl rfl ?_
  obtain ⟨g5, h4⟩ := gdn h3; clear h3
  refine b_ldiv C dX3_down_2 g5 ?_
  obtain ⟨x6, ex6, h7⟩ := lt1_inv h4; clear h4
  refine b_nmJ ex6 ?_
  refine b_lstore (lv' := [(4, .long x6), (0, .long a1), (2, .long a2)]) C dX3_down_3 (by decide) rfl ?_
  refine b_lload C 0 dX3_down_5 rfl ?_
  refine b_lload_n C 2 dX3_down_7 rfl rfl ?_
  refine b_lmul C dX3_down_8 ?_
  refine b_lload_n C 1 dX3_down_9 rfl rfl ?_
  refine b_lc_le (tgt := 21) C dX3_down_10 dX3_down_11 (by decide) (fun c8 => ?_) (fun c8 => ?_)
  · have h9 := ipos h7 c8; clear h7
    refine b_lload C 0 dX3_down_21 rfl ?_
    obtain rfl := so1 h9
    exact s_lret C dX3_down_23 hr
  have h10 := ineg h7 c8; clear h7
  refine b_lload C 0 dX3_down_14 rfl ?_
  refine b_lconst (v := (1 : Int64)) C dX3_down_16 (by decide) ?_
  refine b_lsub C dX3_down_17 ?_
  refine b_goto (tgt := 23) C dX3_down_18 (by decide) ?_
  obtain rfl := so1 h10
  exact s_lret C dX3_down_23 hr
def rmX3_reset : Room := { frames := 1, cells := 0, slots := 0, locals := 25 }
def fX3_reset (N : Nat) (σ : St) (a1 : Int32) (a2 : Int32) (a3 : Int32) : Option (Int32 × St) :=
  bd0 (fX3_within (a1.toInt64) (2 : Int64) (10 : Int64)) fun r6 =>
  if r6 = (0 : Int32) then (
  some ((-1002 : Int32), σ))
  else (
  bd0 (fX3_within (a2.toInt64) (0 : Int64) (3 : Int64)) fun r11 =>
  if r11 = (0 : Int32) then (
  some ((-1002 : Int32), σ))
  else (
  bd0 (fX3_within (a3.toInt64) (1 : Int64) (720720 : Int64)) fun r16 =>
  if r16 = (0 : Int32) then (
  some ((-1002 : Int32), σ))
  else (
  lt1 (gI σ 0) fun x20 =>
  bd0 (fX3_begin N σ a1 a2 a3) fun σ23 =>
  some (x20, σ23))))
theorem ctX3_reset {l : Launch} {ad : Nat → Nat} {ca : Nat → ClassId} {N : Nat} {σ : St} {a1 : Int32} {a2 : Int32} {a3 : Int32} {rf : Int32} {σf : St} (h : fX3_reset N σ a1 a2 a3 = some (rf, σf)) : Cw l yX3_reset cX3_reset 5 (some .int) rmX3_reset [.ref (ad 0), .int a1, .int a2, .int a3] (wM ad ca) (tyM ca) σ (some (.int rf)) σf := by
  refine Cw_of (by decide) (sameM ad ca) (Nat.le_of_ble_eq_true rfl) ?_
  intro p e s m args below meth c D A C X hr
  replace C : Cb p s m args meth c RX3 cX3_reset 5 := C
  have h4 := h; clear h
  refine b_sub (lv' := [(0, .ref (ad 0)), (1, .int a1), (2, .int a2), (3, .int a3)]) [0, 1, 2, 3] rfl ?_
  refine b_iload_n C 1 dX3_reset_0 rfl rfl ?_
  refine b_i2l C dX3_reset_1 ?_
  refine b_ldc2 (v := (2 : Int64)) C dX3_reset_2 kc_X3_67 ?_
  refine b_ldc2 (v := (10 : Int64)) C dX3_reset_5 kc_X3_69 ?_
  obtain ⟨r6, ec5, h5⟩ := bd0_inv h4; clear h4
  refine b_callSi (rest := []) C dX3_reset_8 (ctX3_within ec5) mf_X3_within ms_X3_within kl_X3_71 rfl ⟨rfl, rfl⟩ ⟨Nat.le_of_ble_eq_true rfl, Nat.le_of_ble_eq_true rfl⟩ ⟨Nat.zero_le _, Nat.zero_le _⟩ rfl (Nat.le_of_ble_eq_true rfl) ?_
  refine b_if_eq (tgt := 38) C dX3_reset_11 (by decide) (fun c7 => ?_) (fun c7 => ?_)
  · have h8 := ipos h5 c7; clear h5
    refine b_sipush (v := (-1002 : Int32)) C dX3_reset_38 (by decide) ?_
    obtain ⟨rfl, rfl⟩ := so2 h8
    exact b_iret C dX3_reset_41 hr
  have h9 := ineg h5 c7; clear h5
  refine b_iload_n C 2 dX3_reset_14 rfl rfl ?_
  refine b_i2l C dX3_reset_15 ?_
  refine b_lconst (v := (0 : Int64)) C dX3_reset_16 (by decide) ?_
  refine b_ldc2 (v := (3 : Int64)) C dX3_reset_17 kc_X3_75 ?_
  obtain ⟨r11, ec10, h10⟩ := bd0_inv h9; clear h9
  refine b_callSi (rest := []) C dX3_reset_20 (ctX3_within ec10) mf_X3_within ms_X3_within kl_X3_71 rfl ⟨rfl, rfl⟩ ⟨Nat.le_of_ble_eq_true rfl, Nat.le_of_ble_eq_true rfl⟩ ⟨Nat.zero_le _, Nat.zero_le _⟩ rfl (Nat.le_of_ble_eq_true rfl) ?_
  refine b_if_eq (tgt := 38) C dX3_reset_23 (by decide) (fun c12 => ?_) (fun c12 => ?_)
  · have h13 := ipos h10 c12; clear h10
    refine b_sipush (v := (-1002 : Int32)) C dX3_reset_38 (by decide) ?_
    obtain ⟨rfl, rfl⟩ := so2 h13
    exact b_iret C dX3_reset_41 hr
  have h14 := ineg h10 c12; clear h10
  refine b_iload_n C 3 dX3_reset_26 rfl rfl ?_
  refine b_i2l C dX3_reset_27 ?_
  refine b_lconst (v := (1 : Int64)) C dX3_reset_28 (by decide) ?_
  refine b_ldc2 (v := (720720 : Int64)) C dX3_reset_29 kc_X3_77 ?_
  obtain ⟨r16, ec15, h15⟩ := bd0_inv h14; clear h14
  refine b_callSi (rest := []) C dX3_reset_32 (ctX3_within ec15) mf_X3_within ms_X3_within kl_X3_71 rfl ⟨rfl, rfl⟩ ⟨Nat.le_of_ble_eq_true rfl, Nat.le_of_ble_eq_true rfl⟩ ⟨Nat.zero_le _, Nat.zero_le _⟩ rfl (Nat.le_of_ble_eq_true rfl) ?_
  refine b_if_ne (tgt := 42) C dX3_reset_35 (by decide) (fun c17 => ?_) (fun c17 => ?_)
  · have h18 := ineg h15 c17; clear h15
    refine b_aload_n C 0 dX3_reset_42 rfl rfl ?_
    refine gX3_50 C X dX3_reset_43 ?_
    obtain ⟨x20, ex20, h21⟩ := lt1_inv h18; clear h18
    refine b_nmI ex20 ?_
    refine b_istore (lv' := [(4, .int x20), (0, .ref (ad 0)), (1, .int a1), (2, .int a2), (3, .int a3)]) C dX3_reset_46 (by decide) rfl ?_
    refine b_aload_n C 1 dX3_reset_48 rfl rfl ?_
    refine b_iload_n C 2 dX3_reset_49 rfl rfl ?_
    refine b_iload_n C 3 dX3_reset_50 rfl rfl ?_
    refine b_iload_n C 4 dX3_reset_51 rfl rfl ?_
    obtain ⟨σ23, ec22, h22⟩ := bd0_inv h21; clear h21
    refine b_callWv (rest := []) C (sameM ad ca) X dX3_reset_52 (ctX3_begin ec22) mf_X3_begin mi_X3_begin kl_X3_40 0 rfl rfl rfl rfl ⟨rfl, rfl⟩ ⟨Nat.le_of_ble_eq_true rfl, Nat.le_of_ble_eq_true rfl⟩ ⟨Nat.zero_le _, Nat.zero_le _⟩ rfl (Nat.le_of_ble_eq_true rfl) ?_
    refine b_iload C 0 dX3_reset_55 rfl ?_
    obtain ⟨rfl, rfl⟩ := so2 h22
    exact b_iret C dX3_reset_57 hr
  have h19 := ipos h15 c17; clear h15
  refine b_sipush (v := (-1002 : Int32)) C dX3_reset_38 (by decide) ?_
  obtain ⟨rfl, rfl⟩ := so2 h19
  exact b_iret C dX3_reset_41 hr
def rmX3_noNode : Room := { frames := 1, cells := 0, slots := 0, locals := 25 }
def fX3_noNode (σ : St) (a1 : Int32) : Option (Int32 × St) :=
  bd0 (fX3_within (a1.toInt64) (0 : Int64) (((gI σ 0) - (1 : Int32)).toInt64)) fun r4 =>
  if r4 = (0 : Int32) then (
  some ((1 : Int32), σ))
  else (
  some ((0 : Int32), σ))
theorem ctX3_noNode {l : Launch} {ad : Nat → Nat} {ca : Nat → ClassId} {σ : St} {a1 : Int32} {rf : Int32} {σf : St} (h : fX3_noNode σ a1 = some (rf, σf)) : Cw l yX3_noNode cX3_noNode 2 (some .boolean) rmX3_noNode [.ref (ad 0), .int a1] (wM ad ca) (tyM ca) σ (some (.int rf)) σf := by
  refine Cw_of (by decide) (sameM ad ca) (Nat.le_of_ble_eq_true rfl) ?_
  intro p e s m args below meth c D A C X hr
  replace C : Cb p s m args meth c RX3 cX3_noNode 2 := C
  have h2 := h; clear h
  refine b_sub (lv' := [(0, .ref (ad 0)), (1, .int a1)]) [0, 1] rfl ?_
  refine b_iload_n C 1 dX3_noNode_0 rfl rfl ?_
  refine b_i2l C dX3_noNode_1 ?_
  refine b_lconst (v := (0 : Int64)) C dX3_noNode_2 (by decide) ?_
  refine b_aload_n C 0 dX3_noNode_3 rfl rfl ?_
  refine gX3_50 C X dX3_noNode_4 ?_
  refine b_iconst (v := (1 : Int32)) C dX3_noNode_7 (by decide) ?_
  refine b_isub C dX3_noNode_8 ?_
  refine b_i2l C dX3_noNode_9 ?_
  obtain ⟨r4, ec3, h3⟩ := bd0_inv h2; clear h2
  refine b_callSi (rest := []) C dX3_noNode_10 (ctX3_within ec3) mf_X3_within ms_X3_within kl_X3_71 rfl ⟨rfl, rfl⟩ ⟨Nat.le_of_ble_eq_true rfl, Nat.le_of_ble_eq_true rfl⟩ ⟨Nat.zero_le _, Nat.zero_le _⟩ rfl (Nat.le_of_ble_eq_true rfl) ?_
  refine b_if_ne (tgt := 20) C dX3_noNode_13 (by decide) (fun c5 => ?_) (fun c5 => ?_)
  · have h6 := ineg h3 c5; clear h3
    refine b_iconst (v := (0 : Int32)) C dX3_noNode_20 (by decide) ?_
    obtain ⟨rfl, rfl⟩ := so2 h6
    exact b_zret C dX3_noNode_21 hr rfl
  have h7 := ipos h3 c5; clear h3
  refine b_iconst (v := (1 : Int32)) C dX3_noNode_16 (by decide) ?_
  refine b_goto (tgt := 21) C dX3_noNode_17 (by decide) ?_
  obtain ⟨rfl, rfl⟩ := so2 h7
  exact b_zret C dX3_noNode_21 hr rfl
def rmX3_isCorrect : Room := { frames := 0, cells := 0, slots := 0, locals := 0 }
def fX3_isCorrect (σ : St) (a1 : Int32) : Option (Int32 × St) :=
  if (a1 < 0 ∨ 10 ≤ (a1).toNatClampNeg) then none else
  if (gF σ 0 (a1).toNatClampNeg) = (0 : Int32) then (
  some ((1 : Int32), σ))
  else (
  some ((0 : Int32), σ))
theorem ctX3_isCorrect {l : Launch} {ad : Nat → Nat} {ca : Nat → ClassId} {σ : St} {a1 : Int32} {rf : Int32} {σf : St} (h : fX3_isCorrect σ a1 = some (rf, σf)) : Cw l yX3_isCorrect cX3_isCorrect 2 (some .boolean) rmX3_isCorrect [.ref (ad 0), .int a1] (wM ad ca) (tyM ca) σ (some (.int rf)) σf := by
  refine Cw_of (by decide) (sameM ad ca) (Nat.le_of_ble_eq_true rfl) ?_
  intro p e s m args below meth c D A C X hr
  replace C : Cb p s m args meth c RX3 cX3_isCorrect 2 := C
  have h2 := h; clear h
  refine b_sub (lv' := [(0, .ref (ad 0)), (1, .int a1)]) [0, 1] rfl ?_
  refine b_aload_n C 0 dX3_isCorrect_0 rfl rfl ?_
  refine gX3_13 C X dX3_isCorrect_1 ?_
  refine b_iload_n C 1 dX3_isCorrect_4 rfl rfl ?_
  obtain ⟨g4, h3⟩ := gdn h2; clear h2
  refine lM_2 C X g4 dX3_isCorrect_5 ?_
  refine b_if_ne (tgt := 13) C dX3_isCorrect_6 (by decide) (fun c5 => ?_) (fun c5 => ?_)
  · have h6 := ineg h3 c5; clear h3
    refine b_iconst (v := (0 : Int32)) C dX3_isCorrect_13 (by decide) ?_
    obtain ⟨rfl, rfl⟩ := so2 h6
    exact b_zret C dX3_isCorrect_14 hr rfl
  have h7 := ipos h3 c5; clear h3
  refine b_iconst (v := (1 : Int32)) C dX3_isCorrect_9 (by decide) ?_
  refine b_goto (tgt := 14) C dX3_isCorrect_10 (by decide) ?_
  obtain ⟨rfl, rfl⟩ := so2 h7
  exact b_zret C dX3_isCorrect_14 hr rfl
def rmX3_type : Room := { frames := 0, cells := 0, slots := 0, locals := 0 }
def fX3_type (σ : St) (a1 : Int32) : Option (Int32 × St) :=
  if (gI σ 4) = (40 : Int32) then (
  some ((-1004 : Int32), σ))
  else (
  if ((gI σ 4) < 0 ∨ 40 ≤ ((gI σ 4)).toNatClampNeg) then none else
  lt1 (sF σ 2 (upd (gF σ 2) ((gI σ 4)).toNatClampNeg (vp_nar .char a1))) fun σ8 =>
  lt1 (sI σ8 4 ((gI σ8 4) + (1 : Int32))) fun σ10 =>
  some ((gI σ10 4), σ10))
theorem ctX3_type {l : Launch} {ad : Nat → Nat} {ca : Nat → ClassId} {σ : St} {a1 : Int32} {rf : Int32} {σf : St} (h : fX3_type σ a1 = some (rf, σf)) : Cw l yX3_type cX3_type 2 (some .int) rmX3_type [.ref (ad 0), .int a1] (wM ad ca) (tyM ca) σ (some (.int rf)) σf := by
  refine Cw_of (by decide) (sameM ad ca) (Nat.le_of_ble_eq_true rfl) ?_
  intro p e s m args below meth c D A C X hr
  replace C : Cb p s m args meth c RX3 cX3_type 2 := C
  have h2 := h; clear h
  refine b_sub (lv' := [(0, .ref (ad 0)), (1, .int a1)]) [0, 1] rfl ?_
  refine b_aload_n C 0 dX3_type_0 rfl rfl ?_
  refine gX3_79 C X dX3_type_1 ?_
  refine b_bipush (v := (40 : Int32)) C dX3_type_4 (by decide) ?_
  refine b_icmp_ne (tgt := 13) C dX3_type_6 (by decide) (fun c3 => ?_) (fun c3 => ?_)
  · have h4 := ineg h2 c3; clear h2
    refine b_aload_n C 0 dX3_type_13 rfl rfl ?_
    refine gX3_32 C X dX3_type_14 ?_
    refine b_aload_n C 0 dX3_type_17 rfl rfl ?_
    refine gX3_79 C X dX3_type_18 ?_
    refine b_iload_n C 1 dX3_type_21 rfl rfl ?_
    obtain ⟨g7, h6⟩ := gdn h4; clear h4
    refine aM_8 C X g7 dX3_type_22 ?_
    obtain ⟨σ8, eσ8, h9⟩ := lt1_inv h6; clear h6
    refine b_nmS eσ8 ?_
    refine b_aload_n C 0 dX3_type_23 rfl rfl ?_
    refine b_dup C dX3_type_24 rfl ?_
    refine gX3_79 C X dX3_type_25 ?_
    refine b_iconst (v := (1 : Int32)) C dX3_type_28 (by decide) ?_
    refine b_iadd C dX3_type_29 ?_
    refine pX3_79 C X dX3_type_30 ?_
    obtain ⟨σ10, eσ10, h11⟩ := lt1_inv h9; clear h9
    refine b_nmS eσ10 ?_
    refine b_aload_n C 0 dX3_type_33 rfl rfl ?_
    refine gX3_79 C X dX3_type_34 ?_
    obtain ⟨rfl, rfl⟩ := so2 h11
    exact b_iret C dX3_type_37 hr
  have h5 := ipos h2 c3; clear h2
  refine b_sipush (v := (-1004 : Int32)) C dX3_type_9 (by decide) ?_
  obtain ⟨rfl, rfl⟩ := so2 h5
  exact b_iret C dX3_type_12 hr
def rmX3_clearText : Room := { frames := 0, cells := 0, slots := 0, locals := 0 }
def fX3_clearText (σ : St) : Option (Int32 × St) :=
  lt1 (gI σ 4) fun x2 =>
  lt1 (sI σ 4 (0 : Int32)) fun σ4 =>
  some (x2, σ4)
theorem ctX3_clearText {l : Launch} {ad : Nat → Nat} {ca : Nat → ClassId} {σ : St} {rf : Int32} {σf : St} (h : fX3_clearText σ = some (rf, σf)) : Cw l yX3_clearText cX3_clearText 2 (some .int) rmX3_clearText [.ref (ad 0)] (wM ad ca) (tyM ca) σ (some (.int rf)) σf := by
  refine Cw_of (by decide) (sameM ad ca) (Nat.le_of_ble_eq_true rfl) ?_
  intro p e s m args below meth c D A C X hr
  replace C : Cb p s m args meth c RX3 cX3_clearText 2 := C
  have h1 := h; clear h
  refine b_sub (lv' := [(0, .ref (ad 0))]) [0] rfl ?_
  refine b_aload_n C 0 dX3_clearText_0 rfl rfl ?_
  refine gX3_79 C X dX3_clearText_1 ?_
  obtain ⟨x2, ex2, h3⟩ := lt1_inv h1; clear h1
  refine b_nmI ex2 ?_
  refine b_istore_n (lv' := [(1, .int x2), (0, .ref (ad 0))]) C dX3_clearText_4 rfl (by decide) rfl ?_
  refine b_aload_n C 1 dX3_clearText_5 rfl rfl ?_
  refine b_iconst (v := (0 : Int32)) C dX3_clearText_6 (by decide) ?_
  refine pX3_79 C X dX3_clearText_7 ?_
  obtain ⟨σ4, eσ4, h5⟩ := lt1_inv h3; clear h3
  refine b_nmS eσ4 ?_
  refine b_iload_n C 0 dX3_clearText_10 rfl rfl ?_
  obtain ⟨rfl, rfl⟩ := so2 h5
  exact b_iret C dX3_clearText_11 hr
def rmX3_isAt : Room := { frames := 0, cells := 0, slots := 0, locals := 0 }
def fX3_isAt (σ : St) (a1 : Int32) : Option (Int32 × St) :=
  if (gI σ 4) ≤ (gI σ 5) then (
  some ((0 : Int32), σ))
  else (
  if ((gI σ 5) < 0 ∨ 40 ≤ ((gI σ 5)).toNatClampNeg) then none else
  if (gF σ 2 ((gI σ 5)).toNatClampNeg) = a1 then (
  some ((1 : Int32), σ))
  else (
  some ((0 : Int32), σ)))
theorem ctX3_isAt {l : Launch} {ad : Nat → Nat} {ca : Nat → ClassId} {σ : St} {a1 : Int32} {rf : Int32} {σf : St} (h : fX3_isAt σ a1 = some (rf, σf)) : Cw l yX3_isAt cX3_isAt 2 (some .boolean) rmX3_isAt [.ref (ad 0), .int a1] (wM ad ca) (tyM ca) σ (some (.int rf)) σf := by
  refine Cw_of (by decide) (sameM ad ca) (Nat.le_of_ble_eq_true rfl) ?_
  intro p e s m args below meth c D A C X hr
  replace C : Cb p s m args meth c RX3 cX3_isAt 2 := C
  have h2 := h; clear h
  refine b_sub (lv' := [(0, .ref (ad 0)), (1, .int a1)]) [0, 1] rfl ?_
  refine b_aload_n C 0 dX3_isAt_0 rfl rfl ?_
  refine gX3_82 C X dX3_isAt_1 ?_
  refine b_aload_n C 0 dX3_isAt_4 rfl rfl ?_
  refine gX3_79 C X dX3_isAt_5 ?_
  refine b_icmp_ge (tgt := 28) C dX3_isAt_8 (by decide) (fun c3 => ?_) (fun c3 => ?_)
  · have h4 := ipos h2 c3; clear h2
    refine b_iconst (v := (0 : Int32)) C dX3_isAt_28 (by decide) ?_
    obtain ⟨rfl, rfl⟩ := so2 h4
    exact b_zret C dX3_isAt_29 hr rfl
  have h5 := ineg h2 c3; clear h2
  refine b_aload_n C 0 dX3_isAt_11 rfl rfl ?_
  refine gX3_32 C X dX3_isAt_12 ?_
  refine b_aload_n C 0 dX3_isAt_15 rfl rfl ?_
  refine gX3_82 C X dX3_isAt_16 ?_
  obtain ⟨g7, h6⟩ := gdn h5; clear h5
  refine lM_8 C X g7 dX3_isAt_19 ?_
  refine b_iload_n C 1 dX3_isAt_20 rfl rfl ?_
  refine b_icmp_ne (tgt := 28) C dX3_isAt_21 (by decide) (fun c8 => ?_) (fun c8 => ?_)
  · have h9 := ineg h6 c8; clear h6
    refine b_iconst (v := (0 : Int32)) C dX3_isAt_28 (by decide) ?_
    obtain ⟨rfl, rfl⟩ := so2 h9
    exact b_zret C dX3_isAt_29 hr rfl
  have h10 := ipos h6 c8; clear h6
  refine b_iconst (v := (1 : Int32)) C dX3_isAt_24 (by decide) ?_
  refine b_goto (tgt := 29) C dX3_isAt_25 (by decide) ?_
  obtain ⟨rfl, rfl⟩ := so2 h10
  exact b_zret C dX3_isAt_29 hr rfl
def rmX3_isDigit : Room := { frames := 0, cells := 0, slots := 0, locals := 0 }
def fX3_isDigit (σ : St) : Option (Int32 × St) :=
  if (gI σ 4) ≤ (gI σ 5) then (
  some ((0 : Int32), σ))
  else (
  if ((gI σ 5) < 0 ∨ 40 ≤ ((gI σ 5)).toNatClampNeg) then none else
  if (gF σ 2 ((gI σ 5)).toNatClampNeg) < (48 : Int32) then (
  some ((0 : Int32), σ))
  else (
  if ((gI σ 5) < 0 ∨ 40 ≤ ((gI σ 5)).toNatClampNeg) then none else
  if (57 : Int32) < (gF σ 2 ((gI σ 5)).toNatClampNeg) then (
  some ((0 : Int32), σ))
  else (
  some ((1 : Int32), σ))))
theorem ctX3_isDigit {l : Launch} {ad : Nat → Nat} {ca : Nat → ClassId} {σ : St} {rf : Int32} {σf : St} (h : fX3_isDigit σ = some (rf, σf)) : Cw l yX3_isDigit cX3_isDigit 1 (some .boolean) rmX3_isDigit [.ref (ad 0)] (wM ad ca) (tyM ca) σ (some (.int rf)) σf := by
  refine Cw_of (by decide) (sameM ad ca) (Nat.le_of_ble_eq_true rfl) ?_
  intro p e s m args below meth c D A C X hr
  replace C : Cb p s m args meth c RX3 cX3_isDigit 1 := C
  have h1 := h; clear h
  refine b_sub (lv' := [(0, .ref (ad 0))]) [0] rfl ?_
  refine b_aload_n C 0 dX3_isDigit_0 rfl rfl ?_
  refine gX3_82 C X dX3_isDigit_1 ?_
  refine b_aload_n C 0 dX3_isDigit_4 rfl rfl ?_
  refine gX3_79 C X dX3_isDigit_5 ?_
  refine b_icmp_ge (tgt := 43) C dX3_isDigit_8 (by decide) (fun c2 => ?_) (fun c2 => ?_)
  · have h3 := ipos h1 c2; clear h1
    refine b_iconst (v := (0 : Int32)) C dX3_isDigit_43 (by decide) ?_
    obtain ⟨rfl, rfl⟩ := so2 h3
    exact b_zret C dX3_isDigit_44 hr rfl
  have h4 := ineg h1 c2; clear h1
  refine b_aload_n C 0 dX3_isDigit_11 rfl rfl ?_
  refine gX3_32 C X dX3_isDigit_12 ?_
  refine b_aload_n C 0 dX3_isDigit_15 rfl rfl ?_
  refine gX3_82 C X dX3_isDigit_16 ?_
  obtain ⟨g6, h5⟩ := gdn h4; clear h4
  refine lM_8 C X g6 dX3_isDigit_19 ?_
  refine b_bipush (v := (48 : Int32)) C dX3_isDigit_20 (by decide) ?_
  refine b_icmp_lt (tgt := 43) C dX3_isDigit_22 (by decide) (fun c7 => ?_) (fun c7 => ?_)
  · have h8 := ipos h5 c7; clear h5
    refine b_iconst (v := (0 : Int32)) C dX3_isDigit_43 (by decide) ?_
    obtain ⟨rfl, rfl⟩ := so2 h8
    exact b_zret C dX3_isDigit_44 hr rfl
  have h9 := ineg h5 c7; clear h5
  refine b_aload_n C 0 dX3_isDigit_25 rfl rfl ?_
  refine gX3_32 C X dX3_isDigit_26 ?_
  refine b_aload_n C 0 dX3_isDigit_29 rfl rfl ?_
  refine gX3_82 C X dX3_isDigit_30 ?_
  obtain ⟨g11, h10⟩ := gdn h9; clear h9
  refine lM_8 C X g11 dX3_isDigit_33 ?_
  refine b_bipush (v := (57 : Int32)) C dX3_isDigit_34 (by decide) ?_
  refine b_icmp_gt (tgt := 43) C dX3_isDigit_36 (by decide) (fun c12 => ?_) (fun c12 => ?_)
  · have h13 := ipos h10 c12; clear h10
    refine b_iconst (v := (0 : Int32)) C dX3_isDigit_43 (by decide) ?_
    obtain ⟨rfl, rfl⟩ := so2 h13
    exact b_zret C dX3_isDigit_44 hr rfl
  have h14 := ineg h10 c12; clear h10
  refine b_iconst (v := (1 : Int32)) C dX3_isDigit_39 (by decide) ?_
  refine b_goto (tgt := 44) C dX3_isDigit_40 (by decide) ?_
  obtain ⟨rfl, rfl⟩ := so2 h14
  exact b_zret C dX3_isDigit_44 hr rfl
def rmX3_readDigits : Room := { frames := 1, cells := 0, slots := 0, locals := 20 }
def fX3_readDigits_4b (N : Nat) (q54 : St → Int64 → Int32 → Option (Int64 × St)) (q4 : St → Int64 → Int32 → Option (Int64 × St)) (σ4 : St) (x2 : Int64) (x3 : Int32) : Option (Int64 × St) :=
  if (6 : Int32) ≤ x3 then (
  q54 σ4 x2 x3)
  else (
  bd2 (fX3_isDigit σ4) fun r11 σ10 =>
  if r11 = (0 : Int32) then (
  q54 σ10 x2 x3)
  else (
  if ((gI σ10 5) < 0 ∨ 40 ≤ ((gI σ10 5)).toNatClampNeg) then none else
  lt1 ((((10 : Int64) * x2) + ((gF σ10 2 ((gI σ10 5)).toNatClampNeg).toInt64)) - (48 : Int64)) fun x17 =>
  lt1 (sI σ10 5 ((gI σ10 5) + (1 : Int32))) fun σ19 =>
  lt1 (x3 + (1 : Int32)) fun x21 =>
  q4 σ19 x17 x21))
def fX3_readDigits_4 (N : Nat) (q54 : St → Int64 → Int32 → Option (Int64 × St)) : Nat → St → Int64 → Int32 → Option (Int64 × St)
  | 0, _, _, _ => none
  | n + 1, σ, x2, x3 => fX3_readDigits_4b N q54 (fX3_readDigits_4 N q54 n) σ x2 x3
def fX3_readDigits (N : Nat) (σ : St) : Option (Int64 × St) :=
  fX3_readDigits_4 N (fun σ25 x23 x24 =>
 if x24 ≤ (0 : Int32) then (
  lt1 (sI σ25 6 (0 : Int32)) fun σ30 =>
  some (x23, σ30))
  else (
  bd2 (fX3_isDigit σ25) fun r34 σ33 =>
  if r34 = (0 : Int32) then (
  lt1 (sI σ33 6 (1 : Int32)) fun σ40 =>
  some (x23, σ40))
  else (
  lt1 (sI σ33 6 (0 : Int32)) fun σ38 =>
  some (x23, σ38)))) N σ (0 : Int64) (0 : Int32)
theorem wX3_readDigits_4 {l : Launch} {p : Program} {e : Env} {s : State} {m : MethodId} {args : Array Value} {below : List Frame} {meth : Method} {c : Code} {D : va_G} {A : Nat → Prop} {ad : Nat → Nat} {ca : Nat → ClassId} {rf : Int64} {σf : St} (C : Cb p s m args meth c RX3 cX3_readDigits 4) (X : Cx s D A (wM ad ca) (tyM ca)) (hr : meth.sig.returnType = (some .long)) {N : Nat} {q54 : St → Int64 → Int32 → Option (Int64 × St)} (hq54 : ∀ (σ : St) (y0 : Int64) (y1 : Int32), q54 σ y0 y1 = some (rf, σf) → bW p l e rmX3_readDigits s m args below meth c 0 0 (MQ below (Qw D (wM ad ca) σf (some (.long rf)) A) args s 0 0 A) 4 (wd D A (wM ad ca) s σ) 54 [(0, .ref (ad 0)), (1, .long y0), (3, .int y1)] []) : ∀ n : Nat, ∀ (σ : St) (y0 : Int64) (y1 : Int32), fX3_readDigits_4 N q54 n σ y0 y1 = some (rf, σf) → bW p l e rmX3_readDigits s m args below meth c 0 0 (MQ below (Qw D (wM ad ca) σf (some (.long rf)) A) args s 0 0 A) 4 (wd D A (wM ad ca) s σ) 4 [(0, .ref (ad 0)), (1, .long y0), (3, .int y1)] [] := by
  intro n
  induction n with
  | zero => intro σ4 x2 x3 h5; exact nn h5
  | succ n hq4 =>
    intro σ4 x2 x3 h5
    replace h5 : fX3_readDigits_4b N q54 (fX3_readDigits_4 N q54 n) σ4 x2 x3 = some (rf, σf) := h5
    refine b_iload_n C 2 dX3_readDigits_4 rfl rfl ?_
    refine b_bipush (v := (6 : Int32)) C dX3_readDigits_5 (by decide) ?_
    refine b_icmp_ge (tgt := 54) C dX3_readDigits_7 (by decide) (fun c6 => ?_) (fun c6 => ?_)
    · have h7 := ipos h5 c6; clear h5
      exact b_sub [0, 1, 2] rfl (hq54 _ _ _ h7)
    have h8 := ineg h5 c6; clear h5
    refine b_aload_n C 0 dX3_readDigits_10 rfl rfl ?_
    obtain ⟨r11, σ10, ec9, h9⟩ := bd2_inv h8; clear h8
    refine b_callWi (rest := []) C (sameM ad ca) X dX3_readDigits_11 (ctX3_isDigit ec9) mf_X3_isDigit mi_X3_isDigit kl_X3_85 0 rfl rfl rfl rfl ⟨rfl, rfl⟩ ⟨Nat.le_of_ble_eq_true rfl, Nat.le_of_ble_eq_true rfl⟩ ⟨Nat.zero_le _, Nat.zero_le _⟩ rfl (Nat.le_of_ble_eq_true rfl) ?_
    refine b_if_eq (tgt := 54) C dX3_readDigits_14 (by decide) (fun c12 => ?_) (fun c12 => ?_)
    · have h13 := ipos h9 c12; clear h9
      exact b_sub [0, 1, 2] rfl (hq54 _ _ _ h13)
    have h14 := ineg h9 c12; clear h9
    refine b_ldc2 (v := (10 : Int64)) C dX3_readDigits_17 kc_X3_69 ?_
    refine b_lload_n C 1 dX3_readDigits_20 rfl rfl ?_
    refine b_lmul C dX3_readDigits_21 ?_
    refine b_aload_n C 0 dX3_readDigits_22 rfl rfl ?_
    refine gX3_32 C X dX3_readDigits_23 ?_
    refine b_aload_n C 0 dX3_readDigits_26 rfl rfl ?_
    refine gX3_82 C X dX3_readDigits_27 ?_
    obtain ⟨g16, h15⟩ := gdn h14; clear h14
    refine lM_8 C X g16 dX3_readDigits_30 ?_
    refine b_i2l C dX3_readDigits_31 ?_
    refine b_ladd C dX3_readDigits_32 ?_
    refine b_ldc2 (v := (48 : Int64)) C dX3_readDigits_33 kc_X3_89 ?_
    refine b_lsub C dX3_readDigits_36 ?_
    obtain ⟨x17, ex17, h18⟩ := lt1_inv h15; clear h15
    refine b_nmJ ex17 ?_
    refine b_lstore_n (lv' := [(1, .long x17), (0, .ref (ad 0)), (3, .int x3)]) C dX3_readDigits_37 rfl (by decide) rfl ?_
    refine b_aload_n C 1 dX3_readDigits_38 rfl rfl ?_
    refine b_dup C dX3_readDigits_39 rfl ?_
    refine gX3_82 C X dX3_readDigits_40 ?_
    refine b_iconst (v := (1 : Int32)) C dX3_readDigits_43 (by decide) ?_
    refine b_iadd C dX3_readDigits_44 ?_
    refine pX3_82 C X dX3_readDigits_45 ?_
    obtain ⟨σ19, eσ19, h20⟩ := lt1_inv h18; clear h18
    refine b_nmS eσ19 ?_
    obtain ⟨x21, ex21, h22⟩ := lt1_inv h20; clear h20
    refine b_iinc (v := x21) (lv' := [(3, .int x21), (1, .long x17), (0, .ref (ad 0))]) C 2 dX3_readDigits_48 rfl (by rw [ex21]; rfl) (by decide) rfl ?_
    refine b_goto (tgt := 4) C dX3_readDigits_51 (by decide) ?_
    exact b_sub [2, 1, 0] rfl (hq4 _ _ _ h22)
theorem ctX3_readDigits {l : Launch} {ad : Nat → Nat} {ca : Nat → ClassId} {N : Nat} {σ : St} {rf : Int64} {σf : St} (h : fX3_readDigits N σ = some (rf, σf)) : Cw l yX3_readDigits cX3_readDigits 4 (some .long) rmX3_readDigits [.ref (ad 0)] (wM ad ca) (tyM ca) σ (some (.long rf)) σf := by
  refine Cw_of (by decide) (sameM ad ca) (Nat.le_of_ble_eq_true rfl) ?_
  intro p e s m args below meth c D A C X hr
  replace C : Cb p s m args meth c RX3 cX3_readDigits 4 := C
  have h1 := h; clear h
  refine b_sub (lv' := [(0, .ref (ad 0))]) [0] rfl ?_
  refine b_lconst (v := (0 : Int64)) C dX3_readDigits_0 (by decide) ?_
  refine b_lstore_n (lv' := [(1, .long (0 : Int64)), (0, .ref (ad 0))]) C dX3_readDigits_1 rfl (by decide) rfl ?_
  refine b_iconst (v := (0 : Int32)) C dX3_readDigits_2 (by decide) ?_
  refine b_istore_n (lv' := [(3, .int (0 : Int32)), (1, .long (0 : Int64)), (0, .ref (ad 0))]) C dX3_readDigits_3 rfl (by decide) rfl ?_
  refine b_sub [2, 1, 0] rfl (wX3_readDigits_4 C X hr (fun σ25 x23 x24 h26 => ?_) _ _ _ _ h1)
  refine b_aload_n C 0 dX3_readDigits_54 rfl rfl ?_
  refine b_iload_n C 2 dX3_readDigits_55 rfl rfl ?_
  refine b_if_le (tgt := 70) C dX3_readDigits_56 (by decide) (fun c27 => ?_) (fun c27 => ?_)
  · have h28 := ipos h26 c27; clear h26
    refine b_iconst (v := (0 : Int32)) C dX3_readDigits_70 (by decide) ?_
    refine pX3_91 C X (Or.inl rfl) dX3_readDigits_71 ?_
    obtain ⟨σ30, eσ30, h31⟩ := lt1_inv h28; clear h28
    refine b_nmS eσ30 ?_
    refine b_lload_n C 1 dX3_readDigits_74 rfl rfl ?_
    obtain ⟨rfl, rfl⟩ := so2 h31
    exact b_lret C dX3_readDigits_75 hr
  have h29 := ineg h26 c27; clear h26
  refine b_aload_n C 0 dX3_readDigits_59 rfl rfl ?_
  obtain ⟨r34, σ33, ec32, h32⟩ := bd2_inv h29; clear h29
  refine b_callWi (rest := [.ref (ad 0)]) C (sameM ad ca) X dX3_readDigits_60 (ctX3_isDigit ec32) mf_X3_isDigit mi_X3_isDigit kl_X3_85 0 rfl rfl rfl rfl ⟨rfl, rfl⟩ ⟨Nat.le_of_ble_eq_true rfl, Nat.le_of_ble_eq_true rfl⟩ ⟨Nat.zero_le _, Nat.zero_le _⟩ rfl (Nat.le_of_ble_eq_true rfl) ?_
  refine b_if_ne (tgt := 70) C dX3_readDigits_63 (by decide) (fun c35 => ?_) (fun c35 => ?_)
  · have h36 := ineg h32 c35; clear h32
    refine b_iconst (v := (0 : Int32)) C dX3_readDigits_70 (by decide) ?_
    refine pX3_91 C X (Or.inl rfl) dX3_readDigits_71 ?_
    obtain ⟨σ38, eσ38, h39⟩ := lt1_inv h36; clear h36
    refine b_nmS eσ38 ?_
    refine b_lload_n C 1 dX3_readDigits_74 rfl rfl ?_
    obtain ⟨rfl, rfl⟩ := so2 h39
    exact b_lret C dX3_readDigits_75 hr
  have h37 := ipos h32 c35; clear h32
  refine b_iconst (v := (1 : Int32)) C dX3_readDigits_66 (by decide) ?_
  refine b_goto (tgt := 71) C dX3_readDigits_67 (by decide) ?_
  refine pX3_91 C X (Or.inr rfl) dX3_readDigits_71 ?_
  obtain ⟨σ40, eσ40, h41⟩ := lt1_inv h37; clear h37
  refine b_nmS eσ40 ?_
  refine b_lload_n C 1 dX3_readDigits_74 rfl rfl ?_
  obtain ⟨rfl, rfl⟩ := so2 h41
  exact b_lret C dX3_readDigits_75 hr
def rmX3_readNumber : Room := { frames := 2, cells := 0, slots := 0, locals := 43 }
def fX3_readNumber_157 (N : Nat) (σ71 : St) (x67 : Int64) (x68 : Int32) (x69 : Int32) (x70 : Int64) : Option (Int64 × St) :=
  if x69 = (0 : Int32) then (
  lt1 (sI σ71 6 (0 : Int32)) fun σ76 =>
  if (gI σ76 6) = (0 : Int32) then (
  lt1 (sI σ76 5 x68) fun σ81 =>
  some (x70, σ81))
  else (
  lt1 (sI σ76 5 (gI σ76 5)) fun σ83 =>
  some (x70, σ83)))
  else (
  if x70 < x67 then (
  lt1 (sI σ71 6 (0 : Int32)) fun σ88 =>
  if (gI σ88 6) = (0 : Int32) then (
  lt1 (sI σ88 5 x68) fun σ93 =>
  some (x70, σ93))
  else (
  lt1 (sI σ88 5 (gI σ88 5)) fun σ95 =>
  some (x70, σ95)))
  else (
  lt1 (sI σ71 6 (1 : Int32)) fun σ97 =>
  if (gI σ97 6) = (0 : Int32) then (
  lt1 (sI σ97 5 x68) fun σ102 =>
  some (x70, σ102))
  else (
  lt1 (sI σ97 5 (gI σ97 5)) fun σ104 =>
  some (x70, σ104))))
def fX3_readNumber_142 (N : Nat) (σ62 : St) (x57 : Int64) (x58 : Int32) (x59 : Int32) (x60 : Int32) (x61 : Int64) : Option (Int64 × St) :=
  if x59 = (0 : Int32) then (
  fX3_readNumber_157 N σ62 x57 x58 x60 x61)
  else (
  fX3_readNumber_157 N σ62 x57 x58 x60 (-x61))
def fX3_readNumber_121 (N : Nat) (σ52 : St) (x46 : Int64) (x47 : Int32) (x48 : Int32) (x49 : Int64) (x50 : Int64) (x51 : Int32) : Option (Int64 × St) :=
  if x51 = (0 : Int32) then (
  fX3_readNumber_142 N σ52 x46 x47 x48 x51 (0 : Int64))
  else (
  if x50 = (0 : Int64) then none else
  fX3_readNumber_142 N σ52 x46 x47 x48 x51 ((x49 * (gJ σ52 0)) / x50))
def fX3_readNumber_120 (N : Nat) (σ44 : St) (x39 : Int64) (x40 : Int32) (x41 : Int32) (x42 : Int64) (x43 : Int64) : Option (Int64 × St) :=
  fX3_readNumber_121 N σ44 x39 x40 x41 x42 x43 (0 : Int32)
def fX3_readNumber_73 (N : Nat) (σ31 : St) (x26 : Int64) (x27 : Int32) (x28 : Int32) (x29 : Int64) (x30 : Int64) : Option (Int64 × St) :=
  if (gI σ31 6) = (0 : Int32) then (
  some ((0 : Int64), σ31))
  else (
  if x30 ≤ (0 : Int64) then (
  fX3_readNumber_120 N σ31 x26 x27 x28 x29 x30)
  else (
  if ((1000 : Int64) * x30) < x29 then (
  fX3_readNumber_120 N σ31 x26 x27 x28 x29 x30)
  else (
  if x30 = (0 : Int64) then none else
  if ((x29 * (gJ σ31 0)) - (x29 * (gJ σ31 0)) / x30 * x30) = (0 : Int64) then (
  fX3_readNumber_121 N σ31 x26 x27 x28 x29 x30 (1 : Int32))
  else (
  fX3_readNumber_120 N σ31 x26 x27 x28 x29 x30))))
def fX3_readNumber_28 (N : Nat) (σ16 : St) (x11 : Int64) (x12 : Int32) (x13 : Int32) (x14 : Int32) (x15 : Int32) : Option (Int64 × St) :=
  lt1 (sI σ16 5 (x15 + x14)) fun σ18 =>
  bd2 (fX3_readDigits N σ18) fun r22 σ21 =>
  if (gI σ21 6) = (0 : Int32) then (
  fX3_readNumber_73 N σ21 x11 x12 x13 r22 (1 : Int64))
  else (
  bd2 (fX3_isAt σ21 (47 : Int32)) fun r118 σ117 =>
  if r118 = (0 : Int32) then (
  fX3_readNumber_73 N σ117 x11 x12 x13 r22 (1 : Int64))
  else (
  lt1 (sI σ117 5 ((gI σ117 5) + (1 : Int32))) fun σ122 =>
  bd2 (fX3_readDigits N σ122) fun r126 σ125 =>
  fX3_readNumber_73 N σ125 x11 x12 x13 r22 r126))
def fX3_readNumber (N : Nat) (σ : St) (a1 : Int64) : Option (Int64 × St) :=
  lt1 (gI σ 5) fun x3 =>
  bd2 (fX3_isAt σ (45 : Int32)) fun r7 σ6 =>
  if r7 = (0 : Int32) then (
  fX3_readNumber_28 N σ6 a1 x3 r7 (0 : Int32) (gI σ6 5))
  else (
  fX3_readNumber_28 N σ6 a1 x3 r7 (1 : Int32) (gI σ6 5))
theorem wX3_readNumber_157 {l : Launch} {p : Program} {e : Env} {s : State} {m : MethodId} {args : Array Value} {below : List Frame} {meth : Method} {c : Code} {D : va_G} {A : Nat → Prop} {ad : Nat → Nat} {ca : Nat → ClassId} {rf : Int64} {σf : St} (C : Cb p s m args meth c RX3 cX3_readNumber 12) (X : Cx s D A (wM ad ca) (tyM ca)) (hr : meth.sig.returnType = (some .long)) {N : Nat} : ∀ (σ : St) (y0 : Int64) (y1 : Int32) (y2 : Int32) (y3 : Int64), fX3_readNumber_157 N σ y0 y1 y2 y3 = some (rf, σf) → bW p l e rmX3_readNumber s m args below meth c 0 0 (MQ below (Qw D (wM ad ca) σf (some (.long rf)) A) args s 0 0 A) 12 (wd D A (wM ad ca) s σ) 157 [(0, .ref (ad 0)), (1, .long y0), (3, .int y1), (9, .int y2)] [.long y3] := by
  intro σ71 x67 x68 x69 x70 h72
  refine b_lstore (lv' := [(10, .long x70), (0, .ref (ad 0)), (1, .long x67), (3, .int x68), (9, .int x69)]) C dX3_readNumber_157 (by decide) rfl ?_
  refine b_aload_n C 1 dX3_readNumber_159 rfl rfl ?_
  refine b_iload C 4 dX3_readNumber_160 rfl ?_
  refine b_if_eq (tgt := 176) C dX3_readNumber_162 (by decide) (fun c73 => ?_) (fun c73 => ?_)
  · have h74 := ipos h72 c73; clear h72
    refine b_iconst (v := (0 : Int32)) C dX3_readNumber_176 (by decide) ?_
    refine pX3_91 C X (Or.inl rfl) dX3_readNumber_177 ?_
    obtain ⟨σ76, eσ76, h77⟩ := lt1_inv h74; clear h74
    refine b_nmS eσ76 ?_
    refine b_aload_n C 1 dX3_readNumber_180 rfl rfl ?_
    refine b_aload_n C 1 dX3_readNumber_181 rfl rfl ?_
    refine gX3_91 C X dX3_readNumber_182 ?_
    refine b_if_eq (tgt := 195) C dX3_readNumber_185 (by decide) (fun c78 => ?_) (fun c78 => ?_)
    · have h79 := ipos h77 c78; clear h77
      refine b_iload_n C 3 dX3_readNumber_195 rfl rfl ?_
      refine pX3_82 C X dX3_readNumber_196 ?_
      obtain ⟨σ81, eσ81, h82⟩ := lt1_inv h79; clear h79
      refine b_nmS eσ81 ?_
      refine b_lload C 0 dX3_readNumber_199 rfl ?_
      obtain ⟨rfl, rfl⟩ := so2 h82
      exact b_lret C dX3_readNumber_201 hr
    have h80 := ineg h77 c78; clear h77
    refine b_aload_n C 1 dX3_readNumber_188 rfl rfl ?_
    refine gX3_82 C X dX3_readNumber_189 ?_
    refine b_goto (tgt := 196) C dX3_readNumber_192 (by decide) ?_
    refine pX3_82 C X dX3_readNumber_196 ?_
    obtain ⟨σ83, eσ83, h84⟩ := lt1_inv h80; clear h80
    refine b_nmS eσ83 ?_
    refine b_lload C 0 dX3_readNumber_199 rfl ?_
    obtain ⟨rfl, rfl⟩ := so2 h84
    exact b_lret C dX3_readNumber_201 hr
  have h75 := ineg h72 c73; clear h72
  refine b_lload C 0 dX3_readNumber_165 rfl ?_
  refine b_lload_n C 2 dX3_readNumber_167 rfl rfl ?_
  refine b_lc_lt (tgt := 176) C dX3_readNumber_168 dX3_readNumber_169 (by decide) (fun c85 => ?_) (fun c85 => ?_)
  · have h86 := ipos h75 c85; clear h75
    refine b_iconst (v := (0 : Int32)) C dX3_readNumber_176 (by decide) ?_
    refine pX3_91 C X (Or.inl rfl) dX3_readNumber_177 ?_
    obtain ⟨σ88, eσ88, h89⟩ := lt1_inv h86; clear h86
    refine b_nmS eσ88 ?_
    refine b_aload_n C 1 dX3_readNumber_180 rfl rfl ?_
    refine b_aload_n C 1 dX3_readNumber_181 rfl rfl ?_
    refine gX3_91 C X dX3_readNumber_182 ?_
    refine b_if_eq (tgt := 195) C dX3_readNumber_185 (by decide) (fun c90 => ?_) (fun c90 => ?_)
    · have h91 := ipos h89 c90; clear h89
      refine b_iload_n C 3 dX3_readNumber_195 rfl rfl ?_
      refine pX3_82 C X dX3_readNumber_196 ?_
      obtain ⟨σ93, eσ93, h94⟩ := lt1_inv h91; clear h91
      refine b_nmS eσ93 ?_
      refine b_lload C 0 dX3_readNumber_199 rfl ?_
      obtain ⟨rfl, rfl⟩ := so2 h94
      exact b_lret C dX3_readNumber_201 hr
    have h92 := ineg h89 c90; clear h89
    refine b_aload_n C 1 dX3_readNumber_188 rfl rfl ?_
    refine gX3_82 C X dX3_readNumber_189 ?_
    refine b_goto (tgt := 196) C dX3_readNumber_192 (by decide) ?_
    refine pX3_82 C X dX3_readNumber_196 ?_
    obtain ⟨σ95, eσ95, h96⟩ := lt1_inv h92; clear h92
    refine b_nmS eσ95 ?_
    refine b_lload C 0 dX3_readNumber_199 rfl ?_
    obtain ⟨rfl, rfl⟩ := so2 h96
    exact b_lret C dX3_readNumber_201 hr
  have h87 := ineg h75 c85; clear h75
  refine b_iconst (v := (1 : Int32)) C dX3_readNumber_172 (by decide) ?_
  refine b_goto (tgt := 177) C dX3_readNumber_173 (by decide) ?_
  refine pX3_91 C X (Or.inr rfl) dX3_readNumber_177 ?_
  obtain ⟨σ97, eσ97, h98⟩ := lt1_inv h87; clear h87
  refine b_nmS eσ97 ?_
  refine b_aload_n C 1 dX3_readNumber_180 rfl rfl ?_
  refine b_aload_n C 1 dX3_readNumber_181 rfl rfl ?_
  refine gX3_91 C X dX3_readNumber_182 ?_
  refine b_if_eq (tgt := 195) C dX3_readNumber_185 (by decide) (fun c99 => ?_) (fun c99 => ?_)
  · have h100 := ipos h98 c99; clear h98
    refine b_iload_n C 3 dX3_readNumber_195 rfl rfl ?_
    refine pX3_82 C X dX3_readNumber_196 ?_
    obtain ⟨σ102, eσ102, h103⟩ := lt1_inv h100; clear h100
    refine b_nmS eσ102 ?_
    refine b_lload C 0 dX3_readNumber_199 rfl ?_
    obtain ⟨rfl, rfl⟩ := so2 h103
    exact b_lret C dX3_readNumber_201 hr
  have h101 := ineg h98 c99; clear h98
  refine b_aload_n C 1 dX3_readNumber_188 rfl rfl ?_
  refine gX3_82 C X dX3_readNumber_189 ?_
  refine b_goto (tgt := 196) C dX3_readNumber_192 (by decide) ?_
  refine pX3_82 C X dX3_readNumber_196 ?_
  obtain ⟨σ104, eσ104, h105⟩ := lt1_inv h101; clear h101
  refine b_nmS eσ104 ?_
  refine b_lload C 0 dX3_readNumber_199 rfl ?_
  obtain ⟨rfl, rfl⟩ := so2 h105
  exact b_lret C dX3_readNumber_201 hr
theorem wX3_readNumber_142 {l : Launch} {p : Program} {e : Env} {s : State} {m : MethodId} {args : Array Value} {below : List Frame} {meth : Method} {c : Code} {D : va_G} {A : Nat → Prop} {ad : Nat → Nat} {ca : Nat → ClassId} {rf : Int64} {σf : St} (C : Cb p s m args meth c RX3 cX3_readNumber 12) (X : Cx s D A (wM ad ca) (tyM ca)) (hr : meth.sig.returnType = (some .long)) {N : Nat} : ∀ (σ : St) (y0 : Int64) (y1 : Int32) (y2 : Int32) (y3 : Int32) (y4 : Int64), fX3_readNumber_142 N σ y0 y1 y2 y3 y4 = some (rf, σf) → bW p l e rmX3_readNumber s m args below meth c 0 0 (MQ below (Qw D (wM ad ca) σf (some (.long rf)) A) args s 0 0 A) 12 (wd D A (wM ad ca) s σ) 142 [(0, .ref (ad 0)), (1, .long y0), (3, .int y1), (4, .int y2), (9, .int y3)] [.long y4] := by
  intro σ62 x57 x58 x59 x60 x61 h63
  refine b_lstore (lv' := [(10, .long x61), (0, .ref (ad 0)), (1, .long x57), (3, .int x58), (4, .int x59), (9, .int x60)]) C dX3_readNumber_142 (by decide) rfl ?_
  refine b_iload C 4 dX3_readNumber_144 rfl ?_
  refine b_if_eq (tgt := 155) C dX3_readNumber_146 (by decide) (fun c64 => ?_) (fun c64 => ?_)
  · have h65 := ipos h63 c64; clear h63
    refine b_lload C 0 dX3_readNumber_155 rfl ?_
    exact b_sub [1, 2, 3, 5] rfl (wX3_readNumber_157 C X hr _ _ _ _ _ h65)
  have h66 := ineg h63 c64; clear h63
  refine b_lload C 0 dX3_readNumber_149 rfl ?_
  refine b_lneg C dX3_readNumber_151 ?_
  refine b_goto (tgt := 157) C dX3_readNumber_152 (by decide) ?_
  exact b_sub [1, 2, 3, 5] rfl (wX3_readNumber_157 C X hr _ _ _ _ _ h66)
theorem wX3_readNumber_121 {l : Launch} {p : Program} {e : Env} {s : State} {m : MethodId} {args : Array Value} {below : List Frame} {meth : Method} {c : Code} {D : va_G} {A : Nat → Prop} {ad : Nat → Nat} {ca : Nat → ClassId} {rf : Int64} {σf : St} (C : Cb p s m args meth c RX3 cX3_readNumber 12) (X : Cx s D A (wM ad ca) (tyM ca)) (hr : meth.sig.returnType = (some .long)) {N : Nat} : ∀ (σ : St) (y0 : Int64) (y1 : Int32) (y2 : Int32) (y3 : Int64) (y4 : Int64) (y5 : Int32), fX3_readNumber_121 N σ y0 y1 y2 y3 y4 y5 = some (rf, σf) → bW p l e rmX3_readNumber s m args below meth c 0 0 (MQ below (Qw D (wM ad ca) σf (some (.long rf)) A) args s 0 0 A) 12 (wd D A (wM ad ca) s σ) 121 [(0, .ref (ad 0)), (1, .long y0), (3, .int y1), (4, .int y2), (5, .long y3), (7, .long y4)] [.int y5] := by
  intro σ52 x46 x47 x48 x49 x50 x51 h53
  refine b_istore (lv' := [(9, .int x51), (0, .ref (ad 0)), (1, .long x46), (3, .int x47), (4, .int x48), (5, .long x49), (7, .long x50)]) C dX3_readNumber_121 (by decide) rfl ?_
  refine b_iload C 0 dX3_readNumber_123 rfl ?_
  refine b_if_eq (tgt := 141) C dX3_readNumber_125 (by decide) (fun c54 => ?_) (fun c54 => ?_)
  · have h55 := ipos h53 c54; clear h53
    refine b_lconst (v := (0 : Int64)) C dX3_readNumber_141 (by decide) ?_
    exact b_sub [1, 2, 3, 4, 0] rfl (wX3_readNumber_142 C X hr _ _ _ _ _ _ h55)
  have h56 := ineg h53 c54; clear h53
  refine b_lload C 5 dX3_readNumber_128 rfl ?_
  refine b_aload_n C 1 dX3_readNumber_130 rfl rfl ?_
  refine gX3_57 C X dX3_readNumber_131 ?_
  refine b_lmul C dX3_readNumber_134 ?_
  refine b_lload C 6 dX3_readNumber_135 rfl ?_
  obtain ⟨g107, h106⟩ := gdn h56; clear h56
  refine b_ldiv C dX3_readNumber_137 g107 ?_
  refine b_goto (tgt := 142) C dX3_readNumber_138 (by decide) ?_
  exact b_sub [1, 2, 3, 4, 0] rfl (wX3_readNumber_142 C X hr _ _ _ _ _ _ h106)
theorem wX3_readNumber_120 {l : Launch} {p : Program} {e : Env} {s : State} {m : MethodId} {args : Array Value} {below : List Frame} {meth : Method} {c : Code} {D : va_G} {A : Nat → Prop} {ad : Nat → Nat} {ca : Nat → ClassId} {rf : Int64} {σf : St} (C : Cb p s m args meth c RX3 cX3_readNumber 12) (X : Cx s D A (wM ad ca) (tyM ca)) (hr : meth.sig.returnType = (some .long)) {N : Nat} : ∀ (σ : St) (y0 : Int64) (y1 : Int32) (y2 : Int32) (y3 : Int64) (y4 : Int64), fX3_readNumber_120 N σ y0 y1 y2 y3 y4 = some (rf, σf) → bW p l e rmX3_readNumber s m args below meth c 0 0 (MQ below (Qw D (wM ad ca) σf (some (.long rf)) A) args s 0 0 A) 12 (wd D A (wM ad ca) s σ) 120 [(0, .ref (ad 0)), (1, .long y0), (3, .int y1), (4, .int y2), (5, .long y3), (7, .long y4)] [] := by
  intro σ44 x39 x40 x41 x42 x43 h45
  refine b_iconst (v := (0 : Int32)) C dX3_readNumber_120 (by decide) ?_
  exact b_sub [0, 1, 2, 3, 4, 5] rfl (wX3_readNumber_121 C X hr _ _ _ _ _ _ _ h45)
theorem wX3_readNumber_73 {l : Launch} {p : Program} {e : Env} {s : State} {m : MethodId} {args : Array Value} {below : List Frame} {meth : Method} {c : Code} {D : va_G} {A : Nat → Prop} {ad : Nat → Nat} {ca : Nat → ClassId} {rf : Int64} {σf : St} (C : Cb p s m args meth c RX3 cX3_readNumber 12) (X : Cx s D A (wM ad ca) (tyM ca)) (hr : meth.sig.returnType = (some .long)) {N : Nat} : ∀ (σ : St) (y0 : Int64) (y1 : Int32) (y2 : Int32) (y3 : Int64) (y4 : Int64), fX3_readNumber_73 N σ y0 y1 y2 y3 y4 = some (rf, σf) → bW p l e rmX3_readNumber s m args below meth c 0 0 (MQ below (Qw D (wM ad ca) σf (some (.long rf)) A) args s 0 0 A) 12 (wd D A (wM ad ca) s σ) 73 [(0, .ref (ad 0)), (1, .long y0), (3, .int y1), (4, .int y2), (5, .long y3), (7, .long y4)] [] := by
  intro σ31 x26 x27 x28 x29 x30 h32
  refine b_aload_n C 0 dX3_readNumber_73 rfl rfl ?_
  refine gX3_91 C X dX3_readNumber_74 ?_
  refine b_if_ne (tgt := 82) C dX3_readNumber_77 (by decide) (fun c33 => ?_) (fun c33 => ?_)
  · have h34 := ineg h32 c33; clear h32
    refine b_lload C 5 dX3_readNumber_82 rfl ?_
    refine b_lconst (v := (0 : Int64)) C dX3_readNumber_84 (by decide) ?_
    refine b_lc_le (tgt := 120) C dX3_readNumber_85 dX3_readNumber_86 (by decide) (fun c36 => ?_) (fun c36 => ?_)
    · have h37 := ipos h34 c36; clear h34
      exact b_sub [0, 1, 2, 3, 4, 5] rfl (wX3_readNumber_120 C X hr _ _ _ _ _ _ h37)
    have h38 := ineg h34 c36; clear h34
    refine b_lload C 4 dX3_readNumber_89 rfl ?_
    refine b_ldc2 (v := (1000 : Int64)) C dX3_readNumber_91 kc_X3_103 ?_
    refine b_lload C 5 dX3_readNumber_94 rfl ?_
    refine b_lmul C dX3_readNumber_96 ?_
    refine b_lc_gt (tgt := 120) C dX3_readNumber_97 dX3_readNumber_98 (by decide) (fun c108 => ?_) (fun c108 => ?_)
    · have h109 := ipos h38 c108; clear h38
      exact b_sub [0, 1, 2, 3, 4, 5] rfl (wX3_readNumber_120 C X hr _ _ _ _ _ _ h109)
    have h110 := ineg h38 c108; clear h38
    refine b_lload C 4 dX3_readNumber_101 rfl ?_
    refine b_aload_n C 0 dX3_readNumber_103 rfl rfl ?_
    refine gX3_57 C X dX3_readNumber_104 ?_
    refine b_lmul C dX3_readNumber_107 ?_
    refine b_lload C 5 dX3_readNumber_108 rfl ?_
    obtain ⟨g112, h111⟩ := gdn h110; clear h110
    refine b_lrem C dX3_readNumber_110 g112 ?_
    refine b_lconst (v := (0 : Int64)) C dX3_readNumber_111 (by decide) ?_
    refine b_lc_ne (tgt := 120) C dX3_readNumber_112 dX3_readNumber_113 (by decide) (fun c113 => ?_) (fun c113 => ?_)
    · have h114 := ineg h111 c113; clear h111
      exact b_sub [0, 1, 2, 3, 4, 5] rfl (wX3_readNumber_120 C X hr _ _ _ _ _ _ h114)
    have h115 := ipos h111 c113; clear h111
    refine b_iconst (v := (1 : Int32)) C dX3_readNumber_116 (by decide) ?_
    refine b_goto (tgt := 121) C dX3_readNumber_117 (by decide) ?_
    exact b_sub [0, 1, 2, 3, 4, 5] rfl (wX3_readNumber_121 C X hr _ _ _ _ _ _ _ h115)
  have h35 := ipos h32 c33; clear h32
  refine b_lconst (v := (0 : Int64)) C dX3_readNumber_80 (by decide) ?_
  obtain ⟨rfl, rfl⟩ := so2 h35
  exact b_lret C dX3_readNumber_81 hr
theorem wX3_readNumber_28 {l : Launch} {p : Program} {e : Env} {s : State} {m : MethodId} {args : Array Value} {below : List Frame} {meth : Method} {c : Code} {D : va_G} {A : Nat → Prop} {ad : Nat → Nat} {ca : Nat → ClassId} {rf : Int64} {σf : St} (C : Cb p s m args meth c RX3 cX3_readNumber 12) (X : Cx s D A (wM ad ca) (tyM ca)) (hr : meth.sig.returnType = (some .long)) {N : Nat} : ∀ (σ : St) (y0 : Int64) (y1 : Int32) (y2 : Int32) (y3 : Int32) (y4 : Int32), fX3_readNumber_28 N σ y0 y1 y2 y3 y4 = some (rf, σf) → bW p l e rmX3_readNumber s m args below meth c 0 0 (MQ below (Qw D (wM ad ca) σf (some (.long rf)) A) args s 0 0 A) 12 (wd D A (wM ad ca) s σ) 28 [(0, .ref (ad 0)), (1, .long y0), (3, .int y1), (4, .int y2)] [.int y3, .int y4, .ref (ad 0)] := by
  intro σ16 x11 x12 x13 x14 x15 h17
  refine b_iadd C dX3_readNumber_28 ?_
  refine pX3_82 C X dX3_readNumber_29 ?_
  obtain ⟨σ18, eσ18, h19⟩ := lt1_inv h17; clear h17
  refine b_nmS eσ18 ?_
  refine b_aload_n C 0 dX3_readNumber_32 rfl rfl ?_
  obtain ⟨r22, σ21, ec20, h20⟩ := bd2_inv h19; clear h19
  refine b_callWl (rest := []) C (sameM ad ca) X dX3_readNumber_33 (ctX3_readDigits ec20) mf_X3_readDigits mi_X3_readDigits kl_X3_99 0 rfl rfl rfl rfl ⟨rfl, rfl⟩ ⟨Nat.le_of_ble_eq_true rfl, Nat.le_of_ble_eq_true rfl⟩ ⟨Nat.zero_le _, Nat.zero_le _⟩ rfl (Nat.le_of_ble_eq_true rfl) ?_
  refine b_lstore (lv' := [(5, .long r22), (0, .ref (ad 0)), (1, .long x11), (3, .int x12), (4, .int x13)]) C dX3_readNumber_36 (by decide) rfl ?_
  refine b_lconst (v := (1 : Int64)) C dX3_readNumber_38 (by decide) ?_
  refine b_lstore (lv' := [(7, .long (1 : Int64)), (5, .long r22), (0, .ref (ad 0)), (1, .long x11), (3, .int x12), (4, .int x13)]) C dX3_readNumber_39 (by decide) rfl ?_
  refine b_aload_n C 2 dX3_readNumber_41 rfl rfl ?_
  refine gX3_91 C X dX3_readNumber_42 ?_
  refine b_if_eq (tgt := 73) C dX3_readNumber_45 (by decide) (fun c23 => ?_) (fun c23 => ?_)
  · have h24 := ipos h20 c23; clear h20
    exact b_sub [2, 3, 4, 5, 1, 0] rfl (wX3_readNumber_73 C X hr _ _ _ _ _ _ h24)
  have h25 := ineg h20 c23; clear h20
  refine b_aload_n C 2 dX3_readNumber_48 rfl rfl ?_
  refine b_bipush (v := (47 : Int32)) C dX3_readNumber_49 (by decide) ?_
  obtain ⟨r118, σ117, ec116, h116⟩ := bd2_inv h25; clear h25
  refine b_callWi (rest := []) C (sameM ad ca) X dX3_readNumber_51 (ctX3_isAt ec116) mf_X3_isAt mi_X3_isAt kl_X3_95 0 rfl rfl rfl rfl ⟨rfl, rfl⟩ ⟨Nat.le_of_ble_eq_true rfl, Nat.le_of_ble_eq_true rfl⟩ ⟨Nat.zero_le _, Nat.zero_le _⟩ rfl (Nat.le_of_ble_eq_true rfl) ?_
  refine b_if_eq (tgt := 73) C dX3_readNumber_54 (by decide) (fun c119 => ?_) (fun c119 => ?_)
  · have h120 := ipos h116 c119; clear h116
    exact b_sub [2, 3, 4, 5, 1, 0] rfl (wX3_readNumber_73 C X hr _ _ _ _ _ _ h120)
  have h121 := ineg h116 c119; clear h116
  refine b_aload_n C 2 dX3_readNumber_57 rfl rfl ?_
  refine b_dup C dX3_readNumber_58 rfl ?_
  refine gX3_82 C X dX3_readNumber_59 ?_
  refine b_iconst (v := (1 : Int32)) C dX3_readNumber_62 (by decide) ?_
  refine b_iadd C dX3_readNumber_63 ?_
  refine pX3_82 C X dX3_readNumber_64 ?_
  obtain ⟨σ122, eσ122, h123⟩ := lt1_inv h121; clear h121
  refine b_nmS eσ122 ?_
  refine b_aload_n C 2 dX3_readNumber_67 rfl rfl ?_
  obtain ⟨r126, σ125, ec124, h124⟩ := bd2_inv h123; clear h123
  refine b_callWl (rest := []) C (sameM ad ca) X dX3_readNumber_68 (ctX3_readDigits ec124) mf_X3_readDigits mi_X3_readDigits kl_X3_99 0 rfl rfl rfl rfl ⟨rfl, rfl⟩ ⟨Nat.le_of_ble_eq_true rfl, Nat.le_of_ble_eq_true rfl⟩ ⟨Nat.zero_le _, Nat.zero_le _⟩ rfl (Nat.le_of_ble_eq_true rfl) ?_
  refine b_lstore (lv' := [(7, .long r126), (5, .long r22), (0, .ref (ad 0)), (1, .long x11), (3, .int x12), (4, .int x13)]) C dX3_readNumber_71 (by decide) rfl ?_
  exact b_sub [2, 3, 4, 5, 1, 0] rfl (wX3_readNumber_73 C X hr _ _ _ _ _ _ h124)
theorem ctX3_readNumber {l : Launch} {ad : Nat → Nat} {ca : Nat → ClassId} {N : Nat} {σ : St} {a1 : Int64} {rf : Int64} {σf : St} (h : fX3_readNumber N σ a1 = some (rf, σf)) : Cw l yX3_readNumber cX3_readNumber 12 (some .long) rmX3_readNumber [.ref (ad 0), .long a1] (wM ad ca) (tyM ca) σ (some (.long rf)) σf := by
  refine Cw_of (by decide) (sameM ad ca) (Nat.le_of_ble_eq_true rfl) ?_
  intro p e s m args below meth c D A C X hr
  replace C : Cb p s m args meth c RX3 cX3_readNumber 12 := C
  have h2 := h; clear h
  refine b_sub (lv' := [(0, .ref (ad 0)), (1, .long a1)]) [0, 1] rfl ?_
  refine b_aload_n C 0 dX3_readNumber_0 rfl rfl ?_
  refine gX3_82 C X dX3_readNumber_1 ?_
  obtain ⟨x3, ex3, h4⟩ := lt1_inv h2; clear h2
  refine b_nmI ex3 ?_
  refine b_istore_n (lv' := [(3, .int x3), (0, .ref (ad 0)), (1, .long a1)]) C dX3_readNumber_4 rfl (by decide) rfl ?_
  refine b_aload_n C 1 dX3_readNumber_5 rfl rfl ?_
  refine b_bipush (v := (45 : Int32)) C dX3_readNumber_6 (by decide) ?_
  obtain ⟨r7, σ6, ec5, h5⟩ := bd2_inv h4; clear h4
  refine b_callWi (rest := []) C (sameM ad ca) X dX3_readNumber_8 (ctX3_isAt ec5) mf_X3_isAt mi_X3_isAt kl_X3_95 0 rfl rfl rfl rfl ⟨rfl, rfl⟩ ⟨Nat.le_of_ble_eq_true rfl, Nat.le_of_ble_eq_true rfl⟩ ⟨Nat.zero_le _, Nat.zero_le _⟩ rfl (Nat.le_of_ble_eq_true rfl) ?_
  refine b_istore (lv' := [(4, .int r7), (3, .int x3), (0, .ref (ad 0)), (1, .long a1)]) C dX3_readNumber_11 (by decide) rfl ?_
  refine b_aload_n C 2 dX3_readNumber_13 rfl rfl ?_
  refine b_dup C dX3_readNumber_14 rfl ?_
  refine gX3_82 C X dX3_readNumber_15 ?_
  refine b_iload C 0 dX3_readNumber_18 rfl ?_
  refine b_if_eq (tgt := 27) C dX3_readNumber_20 (by decide) (fun c8 => ?_) (fun c8 => ?_)
  · have h9 := ipos h5 c8; clear h5
    refine b_iconst (v := (0 : Int32)) C dX3_readNumber_27 (by decide) ?_
    exact b_sub [2, 3, 1, 0] rfl (wX3_readNumber_28 C X hr _ _ _ _ _ _ h9)
  have h10 := ineg h5 c8; clear h5
  refine b_iconst (v := (1 : Int32)) C dX3_readNumber_23 (by decide) ?_
  refine b_goto (tgt := 28) C dX3_readNumber_24 (by decide) ?_
  exact b_sub [2, 3, 1, 0] rfl (wX3_readNumber_28 C X hr _ _ _ _ _ _ h10)
