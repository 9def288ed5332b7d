def rmX1_parse : Room := { frames := 3, cells := 0, slots := 0, locals := 73 }
def fX1_parse (N : Nat) (σ : St) (a1 : Int32) : Option (Int32 × St) :=
  lt1 (sI σ 6 (0 : Int32)) fun σ3 =>
  bd2 (fX1_parseNumber N σ3 a1) fun r7 σ6 =>
  if r7 = (-1 : Int32) then (
  lt1 (sJ σ6 1 (gJ σ6 0)) fun σ11 =>
  lt1 (sJ σ11 2 (gJ σ11 0)) fun σ13 =>
  if (gI σ13 6) = (gI σ13 5) then (
  some ((-1 : Int32), σ13))
  else (
  bd2 (fX1_skip σ13 (46 : Int32)) fun r20 σ19 =>
  if r20 = (0 : Int32) then (
  some ((gI σ19 6), σ19))
  else (
  bd2 (fX1_skip σ19 (46 : Int32)) fun r26 σ25 =>
  if r26 = (0 : Int32) then (
  some ((gI σ25 6), σ25))
  else (
  lt1 (gI σ25 6) fun x30 =>
  bd2 (fX1_parseNumber N σ25 a1) fun r34 σ33 =>
  if r34 = (-1 : Int32) then (
  if (gJ σ33 1) ≤ (gJ σ33 0) then (
  lt1 (sJ σ33 2 (gJ σ33 0)) fun σ41 =>
  if (gI σ41 6) = (gI σ41 5) then (
  some ((-1 : Int32), σ41))
  else (
  some ((gI σ41 6), σ41)))
  else (
  some (x30, σ33)))
  else (
  some (r34, σ33))))))
  else (
  some (r7, σ6))
theorem ctX1_parse {l : Launch} {ad : Nat → Nat} {ca : Nat → ClassId} {N : Nat} {σ : St} {a1 : Int32} {rf : Int32} {σf : St} (h : fX1_parse N σ a1 = some (rf, σf)) : Cw l yX1_parse cX1_parse 4 (some .int) rmX1_parse [.ref (ad 1), .int a1] (wX ad ca) (tyX ca) σ (some (.int rf)) σf := by
  refine Cw_of (by decide) (sameX ad ca) (Nat.le_of_ble_eq_true rfl) ?_
  intro p e s m args below meth c D A C X hr
  replace C : Cb p s m args meth c RX1 cX1_parse 4 := C
  have h2 := h; clear h
  refine b_sub (lv' := [(0, .ref (ad 1)), (1, .int a1)]) [0, 1] rfl ?_
  refine b_aload_n C 0 dX1_parse_0 rfl rfl ?_
  refine b_iconst (v := (0 : Int32)) C dX1_parse_1 (by decide) ?_
  refine pX1_26 C X dX1_parse_2 ?_
  obtain ⟨σ3, eσ3, h4⟩ := lt1_inv h2; clear h2
  refine b_nmS eσ3 ?_
  refine b_aload_n C 0 dX1_parse_5 rfl rfl ?_
  refine b_iload_n C 1 dX1_parse_6 rfl rfl ?_
  obtain ⟨r7, σ6, ec5, h5⟩ := bd2_inv h4; clear h4
  refine b_callWi (rest := []) C (sameX ad ca) X dX1_parse_7 (ctX1_parseNumber ec5) mf_X1_parseNumber mi_X1_parseNumber kl_X1_29 1 rfl rfl rfl rfl ⟨rfl, rfl⟩ ⟨Nat.le_of_ble_eq_true rfl, Nat.le_of_ble_eq_true rfl⟩ ⟨Nat.zero_le _, Nat.zero_le _⟩ rfl (Nat.le_of_ble_eq_true rfl) ?_
  refine b_istore_n (lv' := [(2, .int r7), (0, .ref (ad 1)), (1, .int a1)]) C dX1_parse_10 rfl (by decide) rfl ?_
  refine b_iload_n C 0 dX1_parse_11 rfl rfl ?_
  refine b_iconst (v := (-1 : Int32)) C dX1_parse_12 (by decide) ?_
  refine b_icmp_eq (tgt := 18) C dX1_parse_13 (by decide) (fun c8 => ?_) (fun c8 => ?_)
  · have h9 := ipos h5 c8; clear h5
    refine b_aload_n C 1 dX1_parse_18 rfl rfl ?_
    refine b_aload_n C 1 dX1_parse_19 rfl rfl ?_
    refine gX1_33 C X dX1_parse_20 ?_
    refine pX1_19 C X dX1_parse_23 ?_
    obtain ⟨σ11, eσ11, h12⟩ := lt1_inv h9; clear h9
    refine b_nmS eσ11 ?_
    refine b_aload_n C 1 dX1_parse_26 rfl rfl ?_
    refine b_aload_n C 1 dX1_parse_27 rfl rfl ?_
    refine gX1_33 C X dX1_parse_28 ?_
    refine pX1_23 C X dX1_parse_31 ?_
    obtain ⟨σ13, eσ13, h14⟩ := lt1_inv h12; clear h12
    refine b_nmS eσ13 ?_
    refine b_aload_n C 1 dX1_parse_34 rfl rfl ?_
    refine gX1_26 C X dX1_parse_35 ?_
    refine b_aload_n C 1 dX1_parse_38 rfl rfl ?_
    refine gX1_15 C X dX1_parse_39 ?_
    refine b_icmp_ne (tgt := 47) C dX1_parse_42 (by decide) (fun c15 => ?_) (fun c15 => ?_)
    · have h16 := ineg h14 c15; clear h14
      refine b_aload_n C 1 dX1_parse_47 rfl rfl ?_
      refine b_bipush (v := (46 : Int32)) C dX1_parse_48 (by decide) ?_
      obtain ⟨r20, σ19, ec18, h18⟩ := bd2_inv h16; clear h16
      refine b_callWi (rest := []) C (sameX ad ca) X dX1_parse_50 (ctX1_skip ec18) mf_X1_skip mi_X1_skip kl_X1_36 1 rfl rfl rfl rfl ⟨rfl, rfl⟩ ⟨Nat.le_of_ble_eq_true rfl, Nat.le_of_ble_eq_true rfl⟩ ⟨Nat.zero_le _, Nat.zero_le _⟩ rfl (Nat.le_of_ble_eq_true rfl) ?_
      refine b_if_eq (tgt := 65) C dX1_parse_53 (by decide) (fun c21 => ?_) (fun c21 => ?_)
      · have h22 := ipos h18 c21; clear h18
        refine b_aload_n C 1 dX1_parse_65 rfl rfl ?_
        refine gX1_26 C X dX1_parse_66 ?_
        obtain ⟨rfl, rfl⟩ := so2 h22
        exact b_iret C dX1_parse_69 hr
      have h23 := ineg h18 c21; clear h18
      refine b_aload_n C 1 dX1_parse_56 rfl rfl ?_
      refine b_bipush (v := (46 : Int32)) C dX1_parse_57 (by decide) ?_
      obtain ⟨r26, σ25, ec24, h24⟩ := bd2_inv h23; clear h23
      refine b_callWi (rest := []) C (sameX ad ca) X dX1_parse_59 (ctX1_skip ec24) mf_X1_skip mi_X1_skip kl_X1_36 1 rfl rfl rfl rfl ⟨rfl, rfl⟩ ⟨Nat.le_of_ble_eq_true rfl, Nat.le_of_ble_eq_true rfl⟩ ⟨Nat.zero_le _, Nat.zero_le _⟩ rfl (Nat.le_of_ble_eq_true rfl) ?_
      refine b_if_ne (tgt := 70) C dX1_parse_62 (by decide) (fun c27 => ?_) (fun c27 => ?_)
      · have h28 := ineg h24 c27; clear h24
        refine b_aload_n C 1 dX1_parse_70 rfl rfl ?_
        refine gX1_26 C X dX1_parse_71 ?_
        obtain ⟨x30, ex30, h31⟩ := lt1_inv h28; clear h28
        refine b_nmI ex30 ?_
        refine b_istore_n (lv' := [(3, .int x30), (2, .int r7), (0, .ref (ad 1)), (1, .int a1)]) C dX1_parse_74 rfl (by decide) rfl ?_
        refine b_aload_n C 2 dX1_parse_75 rfl rfl ?_
        refine b_iload_n C 3 dX1_parse_76 rfl rfl ?_
        obtain ⟨r34, σ33, ec32, h32⟩ := bd2_inv h31; clear h31
        refine b_callWi (rest := []) C (sameX ad ca) X dX1_parse_77 (ctX1_parseNumber ec32) mf_X1_parseNumber mi_X1_parseNumber kl_X1_29 1 rfl rfl rfl rfl ⟨rfl, rfl⟩ ⟨Nat.le_of_ble_eq_true rfl, Nat.le_of_ble_eq_true rfl⟩ ⟨Nat.zero_le _, Nat.zero_le _⟩ rfl (Nat.le_of_ble_eq_true rfl) ?_
        refine b_istore_n (lv' := [(2, .int r34), (3, .int x30), (0, .ref (ad 1)), (1, .int a1)]) C dX1_parse_80 rfl (by decide) rfl ?_
        refine b_iload_n C 0 dX1_parse_81 rfl rfl ?_
        refine b_iconst (v := (-1 : Int32)) C dX1_parse_82 (by decide) ?_
        refine b_icmp_eq (tgt := 88) C dX1_parse_83 (by decide) (fun c35 => ?_) (fun c35 => ?_)
        · have h36 := ipos h32 c35; clear h32
          refine b_aload_n C 2 dX1_parse_88 rfl rfl ?_
          refine gX1_33 C X dX1_parse_89 ?_
          refine b_aload_n C 2 dX1_parse_92 rfl rfl ?_
          refine gX1_19 C X dX1_parse_93 ?_
          refine b_lc_ge (tgt := 102) C dX1_parse_96 dX1_parse_97 (by decide) (fun c38 => ?_) (fun c38 => ?_)
          · have h39 := ipos h36 c38; clear h36
            refine b_aload_n C 2 dX1_parse_102 rfl rfl ?_
            refine b_aload_n C 2 dX1_parse_103 rfl rfl ?_
            refine gX1_33 C X dX1_parse_104 ?_
            refine pX1_23 C X dX1_parse_107 ?_
            obtain ⟨σ41, eσ41, h42⟩ := lt1_inv h39; clear h39
            refine b_nmS eσ41 ?_
            refine b_aload_n C 2 dX1_parse_110 rfl rfl ?_
            refine gX1_26 C X dX1_parse_111 ?_
            refine b_aload_n C 2 dX1_parse_114 rfl rfl ?_
            refine gX1_15 C X dX1_parse_115 ?_
            refine b_icmp_ne (tgt := 125) C dX1_parse_118 (by decide) (fun c43 => ?_) (fun c43 => ?_)
            · have h44 := ineg h42 c43; clear h42
              refine b_aload_n C 2 dX1_parse_125 rfl rfl ?_
              refine gX1_26 C X dX1_parse_126 ?_
              obtain ⟨rfl, rfl⟩ := so2 h44
              exact b_iret C dX1_parse_129 hr
            have h45 := ipos h42 c43; clear h42
            refine b_iconst (v := (-1 : Int32)) C dX1_parse_121 (by decide) ?_
            refine b_goto (tgt := 129) C dX1_parse_122 (by decide) ?_
            obtain ⟨rfl, rfl⟩ := so2 h45
            exact b_iret C dX1_parse_129 hr
          have h40 := ineg h36 c38; clear h36
          refine b_iload_n C 1 dX1_parse_100 rfl rfl ?_
          obtain ⟨rfl, rfl⟩ := so2 h40
          exact b_iret C dX1_parse_101 hr
        have h37 := ineg h32 c35; clear h32
        refine b_iload_n C 0 dX1_parse_86 rfl rfl ?_
        obtain ⟨rfl, rfl⟩ := so2 h37
        exact b_iret C dX1_parse_87 hr
      have h29 := ipos h24 c27; clear h24
      refine b_aload_n C 1 dX1_parse_65 rfl rfl ?_
      refine gX1_26 C X dX1_parse_66 ?_
      obtain ⟨rfl, rfl⟩ := so2 h29
      exact b_iret C dX1_parse_69 hr
    have h17 := ipos h14 c15; clear h14
    refine b_iconst (v := (-1 : Int32)) C dX1_parse_45 (by decide) ?_
    obtain ⟨rfl, rfl⟩ := so2 h17
    exact b_iret C dX1_parse_46 hr
  have h10 := ineg h5 c8; clear h5
  refine b_iload_n C 0 dX1_parse_16 rfl rfl ?_
  obtain ⟨rfl, rfl⟩ := so2 h10
  exact b_iret C dX1_parse_17 hr
def rmX2_startAnew : Room := { frames := 2, cells := 0, slots := 0, locals := 49 }
def fX2_startAnew_36b (N : Nat) (q66 : St → Option St) (q36 : St → Int32 → Option St) (σ18 : St) (x17 : Int32) : Option St :=
  if (10 : Int32) ≤ x17 then (
  q66 σ18)
  else (
  if (x17 < 0 ∨ 10 ≤ (x17).toNatClampNeg) then none else
  lt1 (sF σ18 2 (upd (gF σ18 2) (x17).toNatClampNeg (0 : Int32))) fun σ25 =>
  bd0 (fX0_clearRow N σ25 6 x17) fun σ28 =>
  lt1 (x17 + (1 : Int32)) fun x29 =>
  q36 σ28 x29)
def fX2_startAnew_36 (N : Nat) (q66 : St → Option St) : Nat → St → Int32 → Option St
  | 0, _, _ => none
  | n + 1, σ, x17 => fX2_startAnew_36b N q66 (fX2_startAnew_36 N q66 n) σ x17
def fX2_startAnew_69b (N : Nat) (q93 : St → Option St) (q69 : St → Int32 → Option St) (σ34 : St) (x33 : Int32) : Option St :=
  if (100 : Int32) ≤ x33 then (
  q93 σ34)
  else (
  if (x33 < 0 ∨ 100 ≤ (x33).toNatClampNeg) then none else
  lt1 (sF σ34 1 (upd (gF σ34 1) (x33).toNatClampNeg (0 : Int32))) fun σ41 =>
  lt1 (x33 + (1 : Int32)) fun x43 =>
  q69 σ41 x43)
def fX2_startAnew_69 (N : Nat) (q93 : St → Option St) : Nat → St → Int32 → Option St
  | 0, _, _ => none
  | n + 1, σ, x33 => fX2_startAnew_69b N q93 (fX2_startAnew_69 N q93 n) σ x33
def fX2_startAnew (N : Nat) (σ : St) (a1 : Int32) (a2 : Int32) (a3 : Int32) : Option St :=
  lt1 (sI σ 0 a1) fun σ5 =>
  lt1 (sI σ5 1 a2) fun σ7 =>
  lt1 (sI σ7 2 a3) fun σ9 =>
  lt1 (sI σ9 3 (0 : Int32)) fun σ11 =>
  lt1 (sI σ11 4 (0 : Int32)) fun σ13 =>
  bd0 (fX0_clearRow N σ13 3 (0 : Int32)) fun σ16 =>
  fX2_startAnew_36 N (fun σ31 =>
 fX2_startAnew_69 N (fun σ45 =>
 some σ45) N σ31 (0 : Int32)) N σ16 (0 : Int32)
theorem wX2_startAnew_36 {l : Launch} {p : Program} {e : Env} {s : State} {m : MethodId} {args : Array Value} {below : List Frame} {meth : Method} {c : Code} {D : va_G} {A : Nat → Prop} {ad : Nat → Nat} {ca : Nat → ClassId} {σf : St} (C : Cb p s m args meth c RX2 cX2_startAnew 5) (X : Cx s D A (wX ad ca) (tyX ca)) (hr : meth.sig.returnType = none) {N : Nat} {q66 : St → Option St} (hq66 : ∀ (σ : St), q66 σ = some σf → bW p l e rmX2_startAnew s m args below meth c 0 0 (MQ below (Qw D (wX ad ca) σf none A) args s 0 0 A) 5 (wd D A (wX ad ca) s σ) 66 [(0, .ref (ad 0))] []) : ∀ n : Nat, ∀ (σ : St) (y0 : Int32), fX2_startAnew_36 N q66 n σ y0 = some σf → bW p l e rmX2_startAnew s m args below meth c 0 0 (MQ below (Qw D (wX ad ca) σf none A) args s 0 0 A) 5 (wd D A (wX ad ca) s σ) 36 [(0, .ref (ad 0)), (4, .int y0)] [] := by
  intro n
  induction n with
  | zero => intro σ18 x17 h19; exact nn h19
  | succ n hq36 =>
    intro σ18 x17 h19
    replace h19 : fX2_startAnew_36b N q66 (fX2_startAnew_36 N q66 n) σ18 x17 = some σf := h19
    refine b_iload C 1 dX2_startAnew_36 rfl ?_
    refine b_bipush (v := (10 : Int32)) C dX2_startAnew_38 (by decide) ?_
    refine b_icmp_ge (tgt := 66) C dX2_startAnew_40 (by decide) (fun c20 => ?_) (fun c20 => ?_)
    · have h21 := ipos h19 c20; clear h19
      exact b_sub [0] rfl (hq66 _ h21)
    have h22 := ineg h19 c20; clear h19
    refine b_aload_n C 0 dX2_startAnew_43 rfl rfl ?_
    refine gX2_34 C X dX2_startAnew_44 ?_
    refine b_iload C 1 dX2_startAnew_47 rfl ?_
    refine b_iconst (v := (0 : Int32)) C dX2_startAnew_49 (by decide) ?_
    obtain ⟨g24, h23⟩ := gdn h22; clear h22
    refine aX_10 C X g24 dX2_startAnew_50 ?_
    obtain ⟨σ25, eσ25, h26⟩ := lt1_inv h23; clear h23
    refine b_nmS eσ25 ?_
    refine b_aload_n C 0 dX2_startAnew_51 rfl rfl ?_
    refine gX2_27 C X dX2_startAnew_52 ?_
    refine b_iload C 1 dX2_startAnew_55 rfl ?_
    obtain ⟨σ28, ec27, h27⟩ := bd0_inv h26; clear h26
    refine b_callWv (rest := []) C (sameX ad ca) X dX2_startAnew_57 (ctX0_clearRow ec27) mf_X0_clearRow mi_X0_clearRow kl_X2_177 6 rfl rfl rfl rfl ⟨rfl, rfl⟩ ⟨Nat.le_of_ble_eq_true rfl, Nat.le_of_ble_eq_true rfl⟩ ⟨Nat.zero_le _, Nat.zero_le _⟩ rfl (Nat.le_of_ble_eq_true rfl) ?_
    obtain ⟨x29, ex29, h30⟩ := lt1_inv h27; clear h27
    refine b_iinc (v := x29) (lv' := [(4, .int x29), (0, .ref (ad 0))]) C 1 dX2_startAnew_60 rfl (by rw [ex29]; rfl) (by decide) rfl ?_
    refine b_goto (tgt := 36) C dX2_startAnew_63 (by decide) ?_
    exact b_sub [1, 0] rfl (hq36 _ _ h30)
theorem wX2_startAnew_69 {l : Launch} {p : Program} {e : Env} {s : State} {m : MethodId} {args : Array Value} {below : List Frame} {meth : Method} {c : Code} {D : va_G} {A : Nat → Prop} {ad : Nat → Nat} {ca : Nat → ClassId} {σf : St} (C : Cb p s m args meth c RX2 cX2_startAnew 5) (X : Cx s D A (wX ad ca) (tyX ca)) (hr : meth.sig.returnType = none) {N : Nat} {q93 : St → Option St} (hq93 : ∀ (σ : St), q93 σ = some σf → bW p l e rmX2_startAnew s m args below meth c 0 0 (MQ below (Qw D (wX ad ca) σf none A) args s 0 0 A) 5 (wd D A (wX ad ca) s σ) 93 [] []) : ∀ n : Nat, ∀ (σ : St) (y0 : Int32), fX2_startAnew_69 N q93 n σ y0 = some σf → bW p l e rmX2_startAnew s m args below meth c 0 0 (MQ below (Qw D (wX ad ca) σf none A) args s 0 0 A) 5 (wd D A (wX ad ca) s σ) 69 [(0, .ref (ad 0)), (4, .int y0)] [] := by
  intro n
  induction n with
  | zero => intro σ34 x33 h35; exact nn h35
  | succ n hq69 =>
    intro σ34 x33 h35
    replace h35 : fX2_startAnew_69b N q93 (fX2_startAnew_69 N q93 n) σ34 x33 = some σf := h35
    refine b_iload C 1 dX2_startAnew_69 rfl ?_
    refine b_aload_n C 0 dX2_startAnew_71 rfl rfl ?_
    refine gX2_30 C X dX2_startAnew_72 ?_
    refine nX_9 C X dX2_startAnew_75 ?_
    refine b_icmp_ge (tgt := 93) C dX2_startAnew_76 (by decide) (fun c36 => ?_) (fun c36 => ?_)
    · have h37 := ipos h35 c36; clear h35
      exact b_sub [] rfl (hq93 _ h37)
    have h38 := ineg h35 c36; clear h35
    refine b_aload_n C 0 dX2_startAnew_79 rfl rfl ?_
    refine gX2_30 C X dX2_startAnew_80 ?_
    refine b_iload C 1 dX2_startAnew_83 rfl ?_
    refine b_iconst (v := (0 : Int32)) C dX2_startAnew_85 (by decide) ?_
    obtain ⟨g40, h39⟩ := gdn h38; clear h38
    refine aX_9 C X g40 dX2_startAnew_86 ?_
    obtain ⟨σ41, eσ41, h42⟩ := lt1_inv h39; clear h39
    refine b_nmS eσ41 ?_
    obtain ⟨x43, ex43, h44⟩ := lt1_inv h42; clear h42
    refine b_iinc (v := x43) (lv' := [(4, .int x43), (0, .ref (ad 0))]) C 1 dX2_startAnew_87 rfl (by rw [ex43]; rfl) (by decide) rfl ?_
    refine b_goto (tgt := 69) C dX2_startAnew_90 (by decide) ?_
    exact b_sub [1, 0] rfl (hq69 _ _ h44)
theorem ctX2_startAnew {l : Launch} {ad : Nat → Nat} {ca : Nat → ClassId} {N : Nat} {σ : St} {a1 : Int32} {a2 : Int32} {a3 : Int32} {σf : St} (h : fX2_startAnew N σ a1 a2 a3 = some σf) : Cw l yX2_startAnew cX2_startAnew 5 none rmX2_startAnew [.ref (ad 0), .int a1, .int a2, .int a3] (wX ad ca) (tyX ca) σ none σf := by
  refine Cw_of (by decide) (sameX ad ca) (Nat.le_of_ble_eq_true rfl) ?_
  intro p e s m args below meth c D A C X hr
  replace C : Cb p s m args meth c RX2 cX2_startAnew 5 := C
  have h4 := h; clear h
  refine b_sub (lv' := [(0, .ref (ad 0)), (1, .int a1), (2, .int a2), (3, .int a3)]) [0, 1, 2, 3] rfl ?_
  refine b_aload_n C 0 dX2_startAnew_0 rfl rfl ?_
  refine b_iload_n C 1 dX2_startAnew_1 rfl rfl ?_
  refine pX2_53 C X dX2_startAnew_2 ?_
  obtain ⟨σ5, eσ5, h6⟩ := lt1_inv h4; clear h4
  refine b_nmS eσ5 ?_
  refine b_aload_n C 0 dX2_startAnew_5 rfl rfl ?_
  refine b_iload_n C 2 dX2_startAnew_6 rfl rfl ?_
  refine pX2_101 C X dX2_startAnew_7 ?_
  obtain ⟨σ7, eσ7, h8⟩ := lt1_inv h6; clear h6
  refine b_nmS eσ7 ?_
  refine b_aload_n C 0 dX2_startAnew_10 rfl rfl ?_
  refine b_iload_n C 3 dX2_startAnew_11 rfl rfl ?_
  refine pX2_83 C X dX2_startAnew_12 ?_
  obtain ⟨σ9, eσ9, h10⟩ := lt1_inv h8; clear h8
  refine b_nmS eσ9 ?_
  refine b_aload_n C 0 dX2_startAnew_15 rfl rfl ?_
  refine b_iconst (v := (0 : Int32)) C dX2_startAnew_16 (by decide) ?_
  refine pX2_72 C X dX2_startAnew_17 ?_
  obtain ⟨σ11, eσ11, h12⟩ := lt1_inv h10; clear h10
  refine b_nmS eσ11 ?_
  refine b_aload_n C 0 dX2_startAnew_20 rfl rfl ?_
  refine b_iconst (v := (0 : Int32)) C dX2_startAnew_21 (by decide) ?_
  refine pX2_98 C X dX2_startAnew_22 ?_
  obtain ⟨σ13, eσ13, h14⟩ := lt1_inv h12; clear h12
  refine b_nmS eσ13 ?_
  refine b_aload_n C 0 dX2_startAnew_25 rfl rfl ?_
  refine gX2_23 C X dX2_startAnew_26 ?_
  refine b_iconst (v := (0 : Int32)) C dX2_startAnew_29 (by decide) ?_
  obtain ⟨σ16, ec15, h15⟩ := bd0_inv h14; clear h14
  refine b_callWv (rest := []) C (sameX ad ca) X dX2_startAnew_30 (ctX0_clearRow ec15) mf_X0_clearRow mi_X0_clearRow kl_X2_177 3 rfl rfl rfl rfl ⟨rfl, rfl⟩ ⟨Nat.le_of_ble_eq_true rfl, Nat.le_of_ble_eq_true rfl⟩ ⟨Nat.zero_le _, Nat.zero_le _⟩ rfl (Nat.le_of_ble_eq_true rfl) ?_
  refine b_iconst (v := (0 : Int32)) C dX2_startAnew_33 (by decide) ?_
  refine b_istore (lv' := [(4, .int (0 : Int32)), (0, .ref (ad 0)), (1, .int a1), (2, .int a2), (3, .int a3)]) C dX2_startAnew_34 (by decide) rfl ?_
  refine b_sub [1, 0] rfl (wX2_startAnew_36 C X hr (fun σ31 h32 => ?_) _ _ _ h15)
  refine b_iconst (v := (0 : Int32)) C dX2_startAnew_66 (by decide) ?_
  refine b_istore (lv' := [(4, .int (0 : Int32)), (0, .ref (ad 0))]) C dX2_startAnew_67 (by decide) rfl ?_
  refine b_sub [1, 0] rfl (wX2_startAnew_69 C X hr (fun σ45 h46 => ?_) _ _ _ h32)
  obtain rfl := so1 h46
  exact b_vret C dX2_startAnew_93 hr
def rmX2_isWithin : Room := { frames := 0, cells := 0, slots := 0, locals := 0 }
def fX2_isWithin (a1 : Int32) (a2 : Int32) (a3 : Int32) : Option Int32 :=
  if a1 < a2 then (
  some (0 : Int32))
  else (
  if a3 < a1 then (
  some (0 : Int32))
  else (
  some (1 : Int32)))
theorem ctX2_isWithin {l : Launch} {a1 : Int32} {a2 : Int32} {a3 : Int32} {rf : Int32} (h : fX2_isWithin a1 a2 a3 = some rf) : Cs l yX2_isWithin cX2_isWithin 3 (some .boolean) rmX2_isWithin [.int a1, .int a2, .int a3] (some (.int rf)) := by
  refine Cs_of (by decide +kernel) (Nat.le_of_ble_eq_true rfl) ?_
  intro p e s m args below meth c C hr
  replace C : Cb p s m args meth c RX2 cX2_isWithin 3 := C
  have h4 := h; clear h
  refine b_sub (lv' := [(0, .int a1), (1, .int a2), (2, .int a3)]) [0, 1, 2] rfl ?_
  refine b_iload_n C 0 dX2_isWithin_0 rfl rfl ?_
  refine b_iload_n C 1 dX2_isWithin_1 rfl rfl ?_
  refine b_icmp_lt (tgt := 14) C dX2_isWithin_2 (by decide) (fun c5 => ?_) (fun c5 => ?_)
  · have h6 := ipos h4 c5; clear h4
    refine b_iconst (v := (0 : Int32)) C dX2_isWithin_14 (by decide) ?_
    obtain rfl := so1 h6
    exact s_zret C dX2_isWithin_15 hr rfl
  have h7 := ineg h4 c5; clear h4
  refine b_iload_n C 0 dX2_isWithin_5 rfl rfl ?_
  refine b_iload_n C 2 dX2_isWithin_6 rfl rfl ?_
  refine b_icmp_gt (tgt := 14) C dX2_isWithin_7 (by decide) (fun c8 => ?_) (fun c8 => ?_)
  · have h9 := ipos h7 c8; clear h7
    refine b_iconst (v := (0 : Int32)) C dX2_isWithin_14 (by decide) ?_
    obtain rfl := so1 h9
    exact s_zret C dX2_isWithin_15 hr rfl
  have h10 := ineg h7 c8; clear h7
  refine b_iconst (v := (1 : Int32)) C dX2_isWithin_10 (by decide) ?_
  refine b_goto (tgt := 15) C dX2_isWithin_11 (by decide) ?_
  obtain rfl := so1 h10
  exact s_zret C dX2_isWithin_15 hr rfl
def rmX2_reset : Room := { frames := 3, cells := 0, slots := 0, locals := 73 }
def fX2_reset (N : Nat) (σ : St) (a1 : Int32) (a2 : Int32) (a3 : Int32) : Option (Int32 × St) :=
  bd0 (fX2_isWithin a1 (2 : Int32) (10 : Int32)) fun r6 =>
  if r6 = (0 : Int32) then (
  some ((-1002 : Int32), σ))
  else (
  bd0 (fX2_isWithin a2 (0 : Int32) (3 : Int32)) fun r11 =>
  if r11 = (0 : Int32) then (
  some ((-1002 : Int32), σ))
  else (
  bd0 (fX2_isWithin a3 (1 : Int32) (720720 : Int32)) fun r16 =>
  if r16 = (0 : Int32) then (
  some ((-1002 : Int32), σ))
  else (
  lt1 (gI σ 0) fun x20 =>
  bd0 (fX2_startAnew N σ a1 a2 a3) fun σ23 =>
  some (x20, σ23))))
theorem ctX2_reset {l : Launch} {ad : Nat → Nat} {ca : Nat → ClassId} {N : Nat} {σ : St} {a1 : Int32} {a2 : Int32} {a3 : Int32} {rf : Int32} {σf : St} (h : fX2_reset N σ a1 a2 a3 = some (rf, σf)) : Cw l yX2_reset cX2_reset 5 (some .int) rmX2_reset [.ref (ad 0), .int a1, .int a2, .int a3] (wX ad ca) (tyX ca) σ (some (.int rf)) σf := by
  refine Cw_of (by decide) (sameX ad ca) (Nat.le_of_ble_eq_true rfl) ?_
  intro p e s m args below meth c D A C X hr
  replace C : Cb p s m args meth c RX2 cX2_reset 5 := C
  have h4 := h; clear h
  refine b_sub (lv' := [(0, .ref (ad 0)), (1, .int a1), (2, .int a2), (3, .int a3)]) [0, 1, 2, 3] rfl ?_
  refine b_iload_n C 1 dX2_reset_0 rfl rfl ?_
  refine b_iconst (v := (2 : Int32)) C dX2_reset_1 (by decide) ?_
  refine b_bipush (v := (10 : Int32)) C dX2_reset_2 (by decide) ?_
  obtain ⟨r6, ec5, h5⟩ := bd0_inv h4; clear h4
  refine b_callSi (rest := []) C dX2_reset_4 (ctX2_isWithin ec5) mf_X2_isWithin ms_X2_isWithin kl_X2_49 rfl ⟨rfl, rfl⟩ ⟨Nat.le_of_ble_eq_true rfl, Nat.le_of_ble_eq_true rfl⟩ ⟨Nat.zero_le _, Nat.zero_le _⟩ rfl (Nat.le_of_ble_eq_true rfl) ?_
  refine b_if_eq (tgt := 29) C dX2_reset_7 (by decide) (fun c7 => ?_) (fun c7 => ?_)
  · have h8 := ipos h5 c7; clear h5
    refine b_sipush (v := (-1002 : Int32)) C dX2_reset_29 (by decide) ?_
    obtain ⟨rfl, rfl⟩ := so2 h8
    exact b_iret C dX2_reset_32 hr
  have h9 := ineg h5 c7; clear h5
  refine b_iload_n C 2 dX2_reset_10 rfl rfl ?_
  refine b_iconst (v := (0 : Int32)) C dX2_reset_11 (by decide) ?_
  refine b_iconst (v := (3 : Int32)) C dX2_reset_12 (by decide) ?_
  obtain ⟨r11, ec10, h10⟩ := bd0_inv h9; clear h9
  refine b_callSi (rest := []) C dX2_reset_13 (ctX2_isWithin ec10) mf_X2_isWithin ms_X2_isWithin kl_X2_49 rfl ⟨rfl, rfl⟩ ⟨Nat.le_of_ble_eq_true rfl, Nat.le_of_ble_eq_true rfl⟩ ⟨Nat.zero_le _, Nat.zero_le _⟩ rfl (Nat.le_of_ble_eq_true rfl) ?_
  refine b_if_eq (tgt := 29) C dX2_reset_16 (by decide) (fun c12 => ?_) (fun c12 => ?_)
  · have h13 := ipos h10 c12; clear h10
    refine b_sipush (v := (-1002 : Int32)) C dX2_reset_29 (by decide) ?_
    obtain ⟨rfl, rfl⟩ := so2 h13
    exact b_iret C dX2_reset_32 hr
  have h14 := ineg h10 c12; clear h10
  refine b_iload_n C 3 dX2_reset_19 rfl rfl ?_
  refine b_iconst (v := (1 : Int32)) C dX2_reset_20 (by decide) ?_
  refine b_ldc (v := (720720 : Int32)) C dX2_reset_21 kc_X2_44 ?_
  obtain ⟨r16, ec15, h15⟩ := bd0_inv h14; clear h14
  refine b_callSi (rest := []) C dX2_reset_23 (ctX2_isWithin ec15) mf_X2_isWithin ms_X2_isWithin kl_X2_49 rfl ⟨rfl, rfl⟩ ⟨Nat.le_of_ble_eq_true rfl, Nat.le_of_ble_eq_true rfl⟩ ⟨Nat.zero_le _, Nat.zero_le _⟩ rfl (Nat.le_of_ble_eq_true rfl) ?_
  refine b_if_ne (tgt := 33) C dX2_reset_26 (by decide) (fun c17 => ?_) (fun c17 => ?_)
  · have h18 := ineg h15 c17; clear h15
    refine b_aload_n C 0 dX2_reset_33 rfl rfl ?_
    refine gX2_53 C X dX2_reset_34 ?_
    obtain ⟨x20, ex20, h21⟩ := lt1_inv h18; clear h18
    refine b_nmI ex20 ?_
    refine b_istore (lv' := [(4, .int x20), (0, .ref (ad 0)), (1, .int a1), (2, .int a2), (3, .int a3)]) C dX2_reset_37 (by decide) rfl ?_
    refine b_aload_n C 1 dX2_reset_39 rfl rfl ?_
    refine b_iload_n C 2 dX2_reset_40 rfl rfl ?_
    refine b_iload_n C 3 dX2_reset_41 rfl rfl ?_
    refine b_iload_n C 4 dX2_reset_42 rfl rfl ?_
    obtain ⟨σ23, ec22, h22⟩ := bd0_inv h21; clear h21
    refine b_callWv (rest := []) C (sameX ad ca) X dX2_reset_43 (ctX2_startAnew ec22) mf_X2_startAnew mi_X2_startAnew kl_X2_45 0 rfl rfl rfl rfl ⟨rfl, rfl⟩ ⟨Nat.le_of_ble_eq_true rfl, Nat.le_of_ble_eq_true rfl⟩ ⟨Nat.zero_le _, Nat.zero_le _⟩ rfl (Nat.le_of_ble_eq_true rfl) ?_
    refine b_iload C 0 dX2_reset_46 rfl ?_
    obtain ⟨rfl, rfl⟩ := so2 h22
    exact b_iret C dX2_reset_48 hr
  have h19 := ipos h15 c17; clear h15
  refine b_sipush (v := (-1002 : Int32)) C dX2_reset_29 (by decide) ?_
  obtain ⟨rfl, rfl⟩ := so2 h19
  exact b_iret C dX2_reset_32 hr
def rmX2_type : Room := { frames := 1, cells := 0, slots := 0, locals := 21 }
def fX2_type (σ : St) (a1 : Int32) : Option (Int32 × St) :=
  bd2 (fX1_append σ a1) fun r5 σ4 =>
  if r5 = (0 : Int32) then (
  some ((-1004 : Int32), σ4))
  else (
  bd2 (fX1_size σ4) fun r11 σ10 =>
  some (r11, σ10))
theorem ctX2_type {l : Launch} {ad : Nat → Nat} {ca : Nat → ClassId} {σ : St} {a1 : Int32} {rf : Int32} {σf : St} (h : fX2_type σ a1 = some (rf, σf)) : Cw l yX2_type cX2_type 2 (some .int) rmX2_type [.ref (ad 0), .int a1] (wX ad ca) (tyX ca) σ (some (.int rf)) σf := by
  refine Cw_of (by decide) (sameX ad ca) (Nat.le_of_ble_eq_true rfl) ?_
  intro p e s m args below meth c D A C X hr
  replace C : Cb p s m args meth c RX2 cX2_type 2 := C
  have h2 := h; clear h
  refine b_sub (lv' := [(0, .ref (ad 0)), (1, .int a1)]) [0, 1] rfl ?_
  refine b_aload_n C 0 dX2_type_0 rfl rfl ?_
  refine gX2_12 C X dX2_type_1 ?_
  refine b_iload_n C 1 dX2_type_4 rfl rfl ?_
  obtain ⟨r5, σ4, ec3, h3⟩ := bd2_inv h2; clear h2
  refine b_callWi (rest := []) C (sameX ad ca) X dX2_type_5 (ctX1_append ec3) mf_X1_append mi_X1_append kl_X2_57 1 rfl rfl rfl rfl ⟨rfl, rfl⟩ ⟨Nat.le_of_ble_eq_true rfl, Nat.le_of_ble_eq_true rfl⟩ ⟨Nat.zero_le _, Nat.zero_le _⟩ rfl (Nat.le_of_ble_eq_true rfl) ?_
  refine b_if_eq (tgt := 21) C dX2_type_8 (by decide) (fun c6 => ?_) (fun c6 => ?_)
  · have h7 := ipos h3 c6; clear h3
    refine b_sipush (v := (-1004 : Int32)) C dX2_type_21 (by decide) ?_
    obtain ⟨rfl, rfl⟩ := so2 h7
    exact b_iret C dX2_type_24 hr
  have h8 := ineg h3 c6; clear h3
  refine b_aload_n C 0 dX2_type_11 rfl rfl ?_
  refine gX2_12 C X dX2_type_12 ?_
  obtain ⟨r11, σ10, ec9, h9⟩ := bd2_inv h8; clear h8
  refine b_callWi (rest := []) C (sameX ad ca) X dX2_type_15 (ctX1_size ec9) mf_X1_size mi_X1_size kl_X2_61 1 rfl rfl rfl rfl ⟨rfl, rfl⟩ ⟨Nat.le_of_ble_eq_true rfl, Nat.le_of_ble_eq_true rfl⟩ ⟨Nat.zero_le _, Nat.zero_le _⟩ rfl (Nat.le_of_ble_eq_true rfl) ?_
  refine b_goto (tgt := 24) C dX2_type_18 (by decide) ?_
  obtain ⟨rfl, rfl⟩ := so2 h9
  exact b_iret C dX2_type_24 hr
def rmX2_clearText : Room := { frames := 1, cells := 0, slots := 0, locals := 21 }
def fX2_clearText (σ : St) : Option (Int32 × St) :=
  bd2 (fX1_empty σ) fun r4 σ3 =>
  some (r4, σ3)
theorem ctX2_clearText {l : Launch} {ad : Nat → Nat} {ca : Nat → ClassId} {σ : St} {rf : Int32} {σf : St} (h : fX2_clearText σ = some (rf, σf)) : Cw l yX2_clearText cX2_clearText 1 (some .int) rmX2_clearText [.ref (ad 0)] (wX ad ca) (tyX ca) σ (some (.int rf)) σf := by
  refine Cw_of (by decide) (sameX ad ca) (Nat.le_of_ble_eq_true rfl) ?_
  intro p e s m args below meth c D A C X hr
  replace C : Cb p s m args meth c RX2 cX2_clearText 1 := C
  have h1 := h; clear h
  refine b_sub (lv' := [(0, .ref (ad 0))]) [0] rfl ?_
  refine b_aload_n C 0 dX2_clearText_0 rfl rfl ?_
  refine gX2_12 C X dX2_clearText_1 ?_
  obtain ⟨r4, σ3, ec2, h2⟩ := bd2_inv h1; clear h1
  refine b_callWi (rest := []) C (sameX ad ca) X dX2_clearText_4 (ctX1_empty ec2) mf_X1_empty mi_X1_empty kl_X2_65 1 rfl rfl rfl rfl ⟨rfl, rfl⟩ ⟨Nat.le_of_ble_eq_true rfl, Nat.le_of_ble_eq_true rfl⟩ ⟨Nat.zero_le _, Nat.zero_le _⟩ rfl (Nat.le_of_ble_eq_true rfl) ?_
  obtain ⟨rfl, rfl⟩ := so2 h2
  exact b_iret C dX2_clearText_7 hr
def rmX2_isNode : Room := { frames := 0, cells := 0, slots := 0, locals := 0 }
def fX2_isNode (σ : St) (a1 : Int32) : Option (Int32 × St) :=
  if a1 < (0 : Int32) then (
  some ((0 : Int32), σ))
  else (
  if (gI σ 0) ≤ a1 then (
  some ((0 : Int32), σ))
  else (
  some ((1 : Int32), σ)))
theorem ctX2_isNode {l : Launch} {ad : Nat → Nat} {ca : Nat → ClassId} {σ : St} {a1 : Int32} {rf : Int32} {σf : St} (h : fX2_isNode σ a1 = some (rf, σf)) : Cw l yX2_isNode cX2_isNode 2 (some .boolean) rmX2_isNode [.ref (ad 0), .int a1] (wX ad ca) (tyX ca) σ (some (.int rf)) σf := by
  refine Cw_of (by decide) (sameX ad ca) (Nat.le_of_ble_eq_true rfl) ?_
  intro p e s m args below meth c D A C X hr
  replace C : Cb p s m args meth c RX2 cX2_isNode 2 := C
  have h2 := h; clear h
  refine b_sub (lv' := [(0, .ref (ad 0)), (1, .int a1)]) [0, 1] rfl ?_
  refine b_iload_n C 1 dX2_isNode_0 rfl rfl ?_
  refine b_if_lt (tgt := 16) C dX2_isNode_1 (by decide) (fun c3 => ?_) (fun c3 => ?_)
  · have h4 := ipos h2 c3; clear h2
    refine b_iconst (v := (0 : Int32)) C dX2_isNode_16 (by decide) ?_
    obtain ⟨rfl, rfl⟩ := so2 h4
    exact b_zret C dX2_isNode_17 hr rfl
  have h5 := ineg h2 c3; clear h2
  refine b_iload_n C 1 dX2_isNode_4 rfl rfl ?_
  refine b_aload_n C 0 dX2_isNode_5 rfl rfl ?_
  refine gX2_53 C X dX2_isNode_6 ?_
  refine b_icmp_ge (tgt := 16) C dX2_isNode_9 (by decide) (fun c6 => ?_) (fun c6 => ?_)
  · have h7 := ipos h5 c6; clear h5
    refine b_iconst (v := (0 : Int32)) C dX2_isNode_16 (by decide) ?_
    obtain ⟨rfl, rfl⟩ := so2 h7
    exact b_zret C dX2_isNode_17 hr rfl
  have h8 := ineg h5 c6; clear h5
  refine b_iconst (v := (1 : Int32)) C dX2_isNode_12 (by decide) ?_
  refine b_goto (tgt := 17) C dX2_isNode_13 (by decide) ?_
  obtain ⟨rfl, rfl⟩ := so2 h8
  exact b_zret C dX2_isNode_17 hr rfl
def rmX2_readTextInto : Room := { frames := 4, cells := 0, slots := 0, locals := 96 }
def fX2_readTextInto (N : Nat) (σ : St) (a1 : Nat) (a2 : Int32) (a3 : Int32) : Option (Int32 × St) :=
  bd2 (fX1_parse N σ (gI σ 2)) fun r7 σ6 =>
  if r7 = (-1 : Int32) then (
  bd2 (fX1_parsedLow σ6) fun r13 σ12 =>
  bd2 (fX1_parsedHigh σ12) fun r16 σ15 =>
  if isT a1 = false then none else
  bd0 (fX0_put σ15 a1 a2 a3 r13 r16) fun σ20 =>
  some ((1 : Int32), σ20))
  else (
  some (((-100 : Int32) - r7), σ6))
theorem ctX2_readTextInto {l : Launch} {ad : Nat → Nat} {ca : Nat → ClassId} {N : Nat} {σ : St} {a1 : Nat} {a2 : Int32} {a3 : Int32} {rf : Int32} {σf : St} (h : fX2_readTextInto N σ a1 a2 a3 = some (rf, σf)) : Cw l yX2_readTextInto cX2_readTextInto 5 (some .int) rmX2_readTextInto [.ref (ad 0), .ref (ad a1), .int a2, .int a3] (wX ad ca) (tyX ca) σ (some (.int rf)) σf := by
  refine Cw_of (by decide) (sameX ad ca) (Nat.le_of_ble_eq_true rfl) ?_
  intro p e s m args below meth c D A C X hr
  replace C : Cb p s m args meth c RX2 cX2_readTextInto 5 := C
  have h4 := h; clear h
  refine b_sub (lv' := [(0, .ref (ad 0)), (1, .ref (ad a1)), (2, .int a2), (3, .int a3)]) [0, 1, 2, 3] rfl ?_
  refine b_aload_n C 0 dX2_readTextInto_0 rfl rfl ?_
  refine gX2_12 C X dX2_readTextInto_1 ?_
  refine b_aload_n C 0 dX2_readTextInto_4 rfl rfl ?_
  refine gX2_83 C X dX2_readTextInto_5 ?_
  obtain ⟨r7, σ6, ec5, h5⟩ := bd2_inv h4; clear h4
  refine b_callWi (rest := []) C (sameX ad ca) X dX2_readTextInto_8 (ctX1_parse ec5) mf_X1_parse mi_X1_parse kl_X2_180 1 rfl rfl rfl rfl ⟨rfl, rfl⟩ ⟨Nat.le_of_ble_eq_true rfl, Nat.le_of_ble_eq_true rfl⟩ ⟨Nat.zero_le _, Nat.zero_le _⟩ rfl (Nat.le_of_ble_eq_true rfl) ?_
  refine b_istore (lv' := [(4, .int r7), (0, .ref (ad 0)), (1, .ref (ad a1)), (2, .int a2), (3, .int a3)]) C dX2_readTextInto_11 (by decide) rfl ?_
  refine b_iload C 0 dX2_readTextInto_13 rfl ?_
  refine b_iconst (v := (-1 : Int32)) C dX2_readTextInto_15 (by decide) ?_
  refine b_icmp_eq (tgt := 25) C dX2_readTextInto_16 (by decide) (fun c8 => ?_) (fun c8 => ?_)
  · have h9 := ipos h5 c8; clear h5
    refine b_aload_n C 2 dX2_readTextInto_25 rfl rfl ?_
    refine b_iload_n C 3 dX2_readTextInto_26 rfl rfl ?_
    refine b_iload_n C 4 dX2_readTextInto_27 rfl rfl ?_
    refine b_aload_n C 1 dX2_readTextInto_28 rfl rfl ?_
    refine gX2_12 C X dX2_readTextInto_29 ?_
    obtain ⟨r13, σ12, ec11, h11⟩ := bd2_inv h9; clear h9
    refine b_callWl (rest := [.int a3, .int a2, .ref (ad a1)]) C (sameX ad ca) X dX2_readTextInto_32 (ctX1_parsedLow ec11) mf_X1_parsedLow mi_X1_parsedLow kl_X2_183 1 rfl rfl rfl rfl ⟨rfl, rfl⟩ ⟨Nat.le_of_ble_eq_true rfl, Nat.le_of_ble_eq_true rfl⟩ ⟨Nat.zero_le _, Nat.zero_le _⟩ rfl (Nat.le_of_ble_eq_true rfl) ?_
    refine b_aload_n C 1 dX2_readTextInto_35 rfl rfl ?_
    refine gX2_12 C X dX2_readTextInto_36 ?_
    obtain ⟨r16, σ15, ec14, h14⟩ := bd2_inv h11; clear h11
    refine b_callWl (rest := [.long r13, .int a3, .int a2, .ref (ad a1)]) C (sameX ad ca) X dX2_readTextInto_39 (ctX1_parsedHigh ec14) mf_X1_parsedHigh mi_X1_parsedHigh kl_X2_187 1 rfl rfl rfl rfl ⟨rfl, rfl⟩ ⟨Nat.le_of_ble_eq_true rfl, Nat.le_of_ble_eq_true rfl⟩ ⟨Nat.zero_le _, Nat.zero_le _⟩ rfl (Nat.le_of_ble_eq_true rfl) ?_
    obtain ⟨g18, h17⟩ := gdn h14; clear h14
    obtain ⟨σ20, ec19, h19⟩ := bd0_inv h17; clear h17
    refine b_callTv (rest := []) C (sameX ad ca) X dX2_readTextInto_42 (ctX0_put ec19) mf_X0_put mi_X0_put kl_X2_190 (nb g18) rfl rfl ⟨rfl, rfl⟩ ⟨Nat.le_of_ble_eq_true rfl, Nat.le_of_ble_eq_true rfl⟩ ⟨Nat.zero_le _, Nat.zero_le _⟩ rfl (Nat.le_of_ble_eq_true rfl) ?_
    refine b_iconst (v := (1 : Int32)) C dX2_readTextInto_45 (by decide) ?_
    obtain ⟨rfl, rfl⟩ := so2 h19
    exact b_iret C dX2_readTextInto_46 hr
  have h10 := ineg h5 c8; clear h5
  refine b_bipush (v := (-100 : Int32)) C dX2_readTextInto_19 (by decide) ?_
  refine b_iload C 0 dX2_readTextInto_21 rfl ?_
  refine b_isub C dX2_readTextInto_23 ?_
  obtain ⟨rfl, rfl⟩ := so2 h10
  exact b_iret C dX2_readTextInto_24 hr
def rmX2_readInput : Room := { frames := 5, cells := 0, slots := 0, locals := 120 }
def fX2_readInput (N : Nat) (σ : St) (a1 : Int32) : Option (Int32 × St) :=
  bd2 (fX2_isNode σ a1) fun r5 σ4 =>
  if r5 = (0 : Int32) then (
  some ((-1001 : Int32), σ4))
  else (
  if (gI σ4 3) = (0 : Int32) then (
  bd2 (fX2_readTextInto N σ4 3 (0 : Int32) a1) fun r14 σ13 =>
  some (r14, σ13))
  else (
  some ((-1003 : Int32), σ4)))
theorem ctX2_readInput {l : Launch} {ad : Nat → Nat} {ca : Nat → ClassId} {N : Nat} {σ : St} {a1 : Int32} {rf : Int32} {σf : St} (h : fX2_readInput N σ a1 = some (rf, σf)) : Cw l yX2_readInput cX2_readInput 2 (some .int) rmX2_readInput [.ref (ad 0), .int a1] (wX ad ca) (tyX ca) σ (some (.int rf)) σf := by
  refine Cw_of (by decide) (sameX ad ca) (Nat.le_of_ble_eq_true rfl) ?_
  intro p e s m args below meth c D A C X hr
  replace C : Cb p s m args meth c RX2 cX2_readInput 2 := C
  have h2 := h; clear h
  refine b_sub (lv' := [(0, .ref (ad 0)), (1, .int a1)]) [0, 1] rfl ?_
  refine b_aload_n C 0 dX2_readInput_0 rfl rfl ?_
  refine b_iload_n C 1 dX2_readInput_1 rfl rfl ?_
  obtain ⟨r5, σ4, ec3, h3⟩ := bd2_inv h2; clear h2
  refine b_callWi (rest := []) C (sameX ad ca) X dX2_readInput_2 (ctX2_isNode ec3) mf_X2_isNode mi_X2_isNode kl_X2_68 0 rfl rfl rfl rfl ⟨rfl, rfl⟩ ⟨Nat.le_of_ble_eq_true rfl, Nat.le_of_ble_eq_true rfl⟩ ⟨Nat.zero_le _, Nat.zero_le _⟩ rfl (Nat.le_of_ble_eq_true rfl) ?_
  refine b_if_ne (tgt := 12) C dX2_readInput_5 (by decide) (fun c6 => ?_) (fun c6 => ?_)
  · have h7 := ineg h3 c6; clear h3
    refine b_aload_n C 0 dX2_readInput_12 rfl rfl ?_
    refine gX2_72 C X dX2_readInput_13 ?_
    refine b_if_eq (tgt := 23) C dX2_readInput_16 (by decide) (fun c9 => ?_) (fun c9 => ?_)
    · have h10 := ipos h7 c9; clear h7
      refine b_aload_n C 0 dX2_readInput_23 rfl rfl ?_
      refine b_aload_n C 0 dX2_readInput_24 rfl rfl ?_
      refine gX2_23 C X dX2_readInput_25 ?_
      refine b_iconst (v := (0 : Int32)) C dX2_readInput_28 (by decide) ?_
      refine b_iload_n C 1 dX2_readInput_29 rfl rfl ?_
      obtain ⟨r14, σ13, ec12, h12⟩ := bd2_inv h10; clear h10
      refine b_callWi (rest := []) C (sameX ad ca) X dX2_readInput_30 (ctX2_readTextInto ec12) mf_X2_readTextInto mi_X2_readTextInto kl_X2_75 0 rfl rfl rfl rfl ⟨rfl, rfl⟩ ⟨Nat.le_of_ble_eq_true rfl, Nat.le_of_ble_eq_true rfl⟩ ⟨Nat.zero_le _, Nat.zero_le _⟩ rfl (Nat.le_of_ble_eq_true rfl) ?_
      obtain ⟨rfl, rfl⟩ := so2 h12
      exact b_iret C dX2_readInput_33 hr
    have h11 := ineg h7 c9; clear h7
    refine b_sipush (v := (-1003 : Int32)) C dX2_readInput_19 (by decide) ?_
    obtain ⟨rfl, rfl⟩ := so2 h11
    exact b_iret C dX2_readInput_22 hr
  have h8 := ipos h3 c6; clear h3
  refine b_sipush (v := (-1001 : Int32)) C dX2_readInput_8 (by decide) ?_
  obtain ⟨rfl, rfl⟩ := so2 h8
  exact b_iret C dX2_readInput_11 hr
def rmX2_areTwoNodes : Room := { frames := 1, cells := 0, slots := 0, locals := 21 }
def fX2_areTwoNodes (σ : St) (a1 : Int32) (a2 : Int32) : Option (Int32 × St) :=
  bd2 (fX2_isNode σ a1) fun r6 σ5 =>
  if r6 = (0 : Int32) then (
  some ((0 : Int32), σ5))
  else (
  bd2 (fX2_isNode σ5 a2) fun r12 σ11 =>
  if r12 = (0 : Int32) then (
  some ((0 : Int32), σ11))
  else (
  if a1 = a2 then (
  some ((0 : Int32), σ11))
  else (
  some ((1 : Int32), σ11))))
theorem ctX2_areTwoNodes {l : Launch} {ad : Nat → Nat} {ca : Nat → ClassId} {σ : St} {a1 : Int32} {a2 : Int32} {rf : Int32} {σf : St} (h : fX2_areTwoNodes σ a1 a2 = some (rf, σf)) : Cw l yX2_areTwoNodes cX2_areTwoNodes 3 (some .boolean) rmX2_areTwoNodes [.ref (ad 0), .int a1, .int a2] (wX ad ca) (tyX ca) σ (some (.int rf)) σf := by
  refine Cw_of (by decide) (sameX ad ca) (Nat.le_of_ble_eq_true rfl) ?_
  intro p e s m args below meth c D A C X hr
  replace C : Cb p s m args meth c RX2 cX2_areTwoNodes 3 := C
  have h3 := h; clear h
  refine b_sub (lv' := [(0, .ref (ad 0)), (1, .int a1), (2, .int a2)]) [0, 1, 2] rfl ?_
  refine b_aload_n C 0 dX2_areTwoNodes_0 rfl rfl ?_
  refine b_iload_n C 1 dX2_areTwoNodes_1 rfl rfl ?_
  obtain ⟨r6, σ5, ec4, h4⟩ := bd2_inv h3; clear h3
  refine b_callWi (rest := []) C (sameX ad ca) X dX2_areTwoNodes_2 (ctX2_isNode ec4) mf_X2_isNode mi_X2_isNode kl_X2_68 0 rfl rfl rfl rfl ⟨rfl, rfl⟩ ⟨Nat.le_of_ble_eq_true rfl, Nat.le_of_ble_eq_true rfl⟩ ⟨Nat.zero_le _, Nat.zero_le _⟩ rfl (Nat.le_of_ble_eq_true rfl) ?_
  refine b_if_eq (tgt := 25) C dX2_areTwoNodes_5 (by decide) (fun c7 => ?_) (fun c7 => ?_)
  · have h8 := ipos h4 c7; clear h4
    refine b_iconst (v := (0 : Int32)) C dX2_areTwoNodes_25 (by decide) ?_
    obtain ⟨rfl, rfl⟩ := so2 h8
    exact b_zret C dX2_areTwoNodes_26 hr rfl
  have h9 := ineg h4 c7; clear h4
  refine b_aload_n C 0 dX2_areTwoNodes_8 rfl rfl ?_
  refine b_iload_n C 2 dX2_areTwoNodes_9 rfl rfl ?_
  obtain ⟨r12, σ11, ec10, h10⟩ := bd2_inv h9; clear h9
  refine b_callWi (rest := []) C (sameX ad ca) X dX2_areTwoNodes_10 (ctX2_isNode ec10) mf_X2_isNode mi_X2_isNode kl_X2_68 0 rfl rfl rfl rfl ⟨rfl, rfl⟩ ⟨Nat.le_of_ble_eq_true rfl, Nat.le_of_ble_eq_true rfl⟩ ⟨Nat.zero_le _, Nat.zero_le _⟩ rfl (Nat.le_of_ble_eq_true rfl) ?_
  refine b_if_eq (tgt := 25) C dX2_areTwoNodes_13 (by decide) (fun c13 => ?_) (fun c13 => ?_)
  · have h14 := ipos h10 c13; clear h10
    refine b_iconst (v := (0 : Int32)) C dX2_areTwoNodes_25 (by decide) ?_
    obtain ⟨rfl, rfl⟩ := so2 h14
    exact b_zret C dX2_areTwoNodes_26 hr rfl
  have h15 := ineg h10 c13; clear h10
  refine b_iload_n C 1 dX2_areTwoNodes_16 rfl rfl ?_
  refine b_iload_n C 2 dX2_areTwoNodes_17 rfl rfl ?_
  refine b_icmp_eq (tgt := 25) C dX2_areTwoNodes_18 (by decide) (fun c16 => ?_) (fun c16 => ?_)
  · have h17 := ipos h15 c16; clear h15
    refine b_iconst (v := (0 : Int32)) C dX2_areTwoNodes_25 (by decide) ?_
    obtain ⟨rfl, rfl⟩ := so2 h17
    exact b_zret C dX2_areTwoNodes_26 hr rfl
  have h18 := ineg h15 c16; clear h15
  refine b_iconst (v := (1 : Int32)) C dX2_areTwoNodes_21 (by decide) ?_
  refine b_goto (tgt := 26) C dX2_areTwoNodes_22 (by decide) ?_
  obtain ⟨rfl, rfl⟩ := so2 h18
  exact b_zret C dX2_areTwoNodes_26 hr rfl
def rmX2_readLie : Room := { frames := 5, cells := 0, slots := 0, locals := 120 }
def fX2_readLie (N : Nat) (σ : St) (a1 : Int32) (a2 : Int32) : Option (Int32 × St) :=
  bd2 (fX2_areTwoNodes σ a1 a2) fun r6 σ5 =>
  if r6 = (0 : Int32) then (
  some ((-1001 : Int32), σ5))
  else (
  bd2 (fX2_readTextInto N σ5 6 a1 a2) fun r12 σ11 =>
  some (r12, σ11))
theorem ctX2_readLie {l : Launch} {ad : Nat → Nat} {ca : Nat → ClassId} {N : Nat} {σ : St} {a1 : Int32} {a2 : Int32} {rf : Int32} {σf : St} (h : fX2_readLie N σ a1 a2 = some (rf, σf)) : Cw l yX2_readLie cX2_readLie 3 (some .int) rmX2_readLie [.ref (ad 0), .int a1, .int a2] (wX ad ca) (tyX ca) σ (some (.int rf)) σf := by
  refine Cw_of (by decide) (sameX ad ca) (Nat.le_of_ble_eq_true rfl) ?_
  intro p e s m args below meth c D A C X hr
  replace C : Cb p s m args meth c RX2 cX2_readLie 3 := C
  have h3 := h; clear h
  refine b_sub (lv' := [(0, .ref (ad 0)), (1, .int a1), (2, .int a2)]) [0, 1, 2] rfl ?_
  refine b_aload_n C 0 dX2_readLie_0 rfl rfl ?_
  refine b_iload_n C 1 dX2_readLie_1 rfl rfl ?_
  refine b_iload_n C 2 dX2_readLie_2 rfl rfl ?_
  obtain ⟨r6, σ5, ec4, h4⟩ := bd2_inv h3; clear h3
  refine b_callWi (rest := []) C (sameX ad ca) X dX2_readLie_3 (ctX2_areTwoNodes ec4) mf_X2_areTwoNodes mi_X2_areTwoNodes kl_X2_79 0 rfl rfl rfl rfl ⟨rfl, rfl⟩ ⟨Nat.le_of_ble_eq_true rfl, Nat.le_of_ble_eq_true rfl⟩ ⟨Nat.zero_le _, Nat.zero_le _⟩ rfl (Nat.le_of_ble_eq_true rfl) ?_
  refine b_if_ne (tgt := 13) C dX2_readLie_6 (by decide) (fun c7 => ?_) (fun c7 => ?_)
  · have h8 := ineg h4 c7; clear h4
    refine b_aload_n C 0 dX2_readLie_13 rfl rfl ?_
    refine b_aload_n C 0 dX2_readLie_14 rfl rfl ?_
    refine gX2_27 C X dX2_readLie_15 ?_
    refine b_iload_n C 1 dX2_readLie_18 rfl rfl ?_
    refine b_iload_n C 2 dX2_readLie_19 rfl rfl ?_
    obtain ⟨r12, σ11, ec10, h10⟩ := bd2_inv h8; clear h8
    refine b_callWi (rest := []) C (sameX ad ca) X dX2_readLie_20 (ctX2_readTextInto ec10) mf_X2_readTextInto mi_X2_readTextInto kl_X2_75 0 rfl rfl rfl rfl ⟨rfl, rfl⟩ ⟨Nat.le_of_ble_eq_true rfl, Nat.le_of_ble_eq_true rfl⟩ ⟨Nat.zero_le _, Nat.zero_le _⟩ rfl (Nat.le_of_ble_eq_true rfl) ?_
    obtain ⟨rfl, rfl⟩ := so2 h10
    exact b_iret C dX2_readLie_23 hr
  have h9 := ipos h4 c7; clear h4
  refine b_sipush (v := (-1001 : Int32)) C dX2_readLie_9 (by decide) ?_
  obtain ⟨rfl, rfl⟩ := so2 h9
  exact b_iret C dX2_readLie_12 hr
def rmX2_setFaulty : Room := { frames := 1, cells := 0, slots := 0, locals := 25 }
def fX2_setFaulty (σ : St) (a1 : Int32) (a2 : Int32) (a3 : Int32) (a4 : Int32) : Option (Int32 × St) :=
  bd2 (fX2_isNode σ a1) fun r8 σ7 =>
  if r8 = (0 : Int32) then (
  some ((-1001 : Int32), σ7))
  else (
  bd0 (fX2_isWithin a2 (1 : Int32) (5 : Int32)) fun r13 =>
  if r13 = (0 : Int32) then (
  some ((-1002 : Int32), σ7))
  else (
  bd0 (fX2_isWithin a3 (-1000 : Int32) (1000 : Int32)) fun r18 =>
  if r18 = (0 : Int32) then (
  some ((-1002 : Int32), σ7))
  else (
  bd0 (fX2_isWithin a4 (1 : Int32) (1000 : Int32)) fun r23 =>
  if r23 = (0 : Int32) then (
  some ((-1002 : Int32), σ7))
  else (
  bd0 (fX2_isOnGrid (a3.toInt64) (a4.toInt64) ((gI σ7 2).toInt64)) fun r28 =>
  if r28 = (0 : Int32) then (
  some ((-1002 : Int32), σ7))
  else (
  if (gI σ7 3) = (0 : Int32) then (
  if (a1 < 0 ∨ 10 ≤ (a1).toNatClampNeg) then none else
  lt1 (gF σ7 2 (a1).toNatClampNeg) fun x37 =>
  if (a1 < 0 ∨ 10 ≤ (a1).toNatClampNeg) then none else
  lt1 (sF σ7 2 (upd (gF σ7 2) (a1).toNatClampNeg a2)) fun σ41 =>
  bd0 (fX2_inUnits (a3.toInt64) (a4.toInt64) ((gI σ41 2).toInt64)) fun r44 =>
  if (a1 < 0 ∨ 10 ≤ (a1).toNatClampNeg) then none else
  lt1 (sG σ41 4 (vp_updL (gG σ41 4) (a1).toNatClampNeg r44)) fun σ47 =>
  some (x37, σ47))
  else (
  some ((-1003 : Int32), σ7)))))))
theorem ctX2_setFaulty {l : Launch} {ad : Nat → Nat} {ca : Nat → ClassId} {σ : St} {a1 : Int32} {a2 : Int32} {a3 : Int32} {a4 : Int32} {rf : Int32} {σf : St} (h : fX2_setFaulty σ a1 a2 a3 a4 = some (rf, σf)) : Cw l yX2_setFaulty cX2_setFaulty 6 (some .int) rmX2_setFaulty [.ref (ad 0), .int a1, .int a2, .int a3, .int a4] (wX ad ca) (tyX ca) σ (some (.int rf)) σf := by
  refine Cw_of (by decide) (sameX ad ca) (Nat.le_of_ble_eq_true rfl) ?_
  intro p e s m args below meth c D A C X hr
  replace C : Cb p s m args meth c RX2 cX2_setFaulty 6 := C
  have h5 := h; clear h
  refine b_sub (lv' := [(0, .ref (ad 0)), (1, .int a1), (2, .int a2), (3, .int a3), (4, .int a4)]) [0, 1, 2, 3, 4] rfl ?_
  refine b_aload_n C 0 dX2_setFaulty_0 rfl rfl ?_
  refine b_iload_n C 1 dX2_setFaulty_1 rfl rfl ?_
  obtain ⟨r8, σ7, ec6, h6⟩ := bd2_inv h5; clear h5
  refine b_callWi (rest := []) C (sameX ad ca) X dX2_setFaulty_2 (ctX2_isNode ec6) mf_X2_isNode mi_X2_isNode kl_X2_68 0 rfl rfl rfl rfl ⟨rfl, rfl⟩ ⟨Nat.le_of_ble_eq_true rfl, Nat.le_of_ble_eq_true rfl⟩ ⟨Nat.zero_le _, Nat.zero_le _⟩ rfl (Nat.le_of_ble_eq_true rfl) ?_
  refine b_if_ne (tgt := 12) C dX2_setFaulty_5 (by decide) (fun c9 => ?_) (fun c9 => ?_)
  · have h10 := ineg h6 c9; clear h6
    refine b_iload_n C 2 dX2_setFaulty_12 rfl rfl ?_
    refine b_iconst (v := (1 : Int32)) C dX2_setFaulty_13 (by decide) ?_
    refine b_iconst (v := (5 : Int32)) C dX2_setFaulty_14 (by decide) ?_
    obtain ⟨r13, ec12, h12⟩ := bd0_inv h10; clear h10
    refine b_callSi (rest := []) C dX2_setFaulty_15 (ctX2_isWithin ec12) mf_X2_isWithin ms_X2_isWithin kl_X2_49 rfl ⟨rfl, rfl⟩ ⟨Nat.le_of_ble_eq_true rfl, Nat.le_of_ble_eq_true rfl⟩ ⟨Nat.zero_le _, Nat.zero_le _⟩ rfl (Nat.le_of_ble_eq_true rfl) ?_
    refine b_if_eq (tgt := 62) C dX2_setFaulty_18 (by decide) (fun c14 => ?_) (fun c14 => ?_)
    · have h15 := ipos h12 c14; clear h12
      refine b_sipush (v := (-1002 : Int32)) C dX2_setFaulty_62 (by decide) ?_
      obtain ⟨rfl, rfl⟩ := so2 h15
      exact b_iret C dX2_setFaulty_65 hr
    have h16 := ineg h12 c14; clear h12
    refine b_iload_n C 3 dX2_setFaulty_21 rfl rfl ?_
    refine b_sipush (v := (-1000 : Int32)) C dX2_setFaulty_22 (by decide) ?_
    refine b_sipush (v := (1000 : Int32)) C dX2_setFaulty_25 (by decide) ?_
    obtain ⟨r18, ec17, h17⟩ := bd0_inv h16; clear h16
    refine b_callSi (rest := []) C dX2_setFaulty_28 (ctX2_isWithin ec17) mf_X2_isWithin ms_X2_isWithin kl_X2_49 rfl ⟨rfl, rfl⟩ ⟨Nat.le_of_ble_eq_true rfl, Nat.le_of_ble_eq_true rfl⟩ ⟨Nat.zero_le _, Nat.zero_le _⟩ rfl (Nat.le_of_ble_eq_true rfl) ?_
    refine b_if_eq (tgt := 62) C dX2_setFaulty_31 (by decide) (fun c19 => ?_) (fun c19 => ?_)
    · have h20 := ipos h17 c19; clear h17
      refine b_sipush (v := (-1002 : Int32)) C dX2_setFaulty_62 (by decide) ?_
      obtain ⟨rfl, rfl⟩ := so2 h20
      exact b_iret C dX2_setFaulty_65 hr
    have h21 := ineg h17 c19; clear h17
    refine b_iload C 4 dX2_setFaulty_34 rfl ?_
    refine b_iconst (v := (1 : Int32)) C dX2_setFaulty_36 (by decide) ?_
    refine b_sipush (v := (1000 : Int32)) C dX2_setFaulty_37 (by decide) ?_
    obtain ⟨r23, ec22, h22⟩ := bd0_inv h21; clear h21
    refine b_callSi (rest := []) C dX2_setFaulty_40 (ctX2_isWithin ec22) mf_X2_isWithin ms_X2_isWithin kl_X2_49 rfl ⟨rfl, rfl⟩ ⟨Nat.le_of_ble_eq_true rfl, Nat.le_of_ble_eq_true rfl⟩ ⟨Nat.zero_le _, Nat.zero_le _⟩ rfl (Nat.le_of_ble_eq_true rfl) ?_
    refine b_if_eq (tgt := 62) C dX2_setFaulty_43 (by decide) (fun c24 => ?_) (fun c24 => ?_)
    · have h25 := ipos h22 c24; clear h22
      refine b_sipush (v := (-1002 : Int32)) C dX2_setFaulty_62 (by decide) ?_
      obtain ⟨rfl, rfl⟩ := so2 h25
      exact b_iret C dX2_setFaulty_65 hr
    have h26 := ineg h22 c24; clear h22
    refine b_iload_n C 3 dX2_setFaulty_46 rfl rfl ?_
    refine b_i2l C dX2_setFaulty_47 ?_
    refine b_iload C 4 dX2_setFaulty_48 rfl ?_
    refine b_i2l C dX2_setFaulty_50 ?_
    refine b_aload_n C 0 dX2_setFaulty_51 rfl rfl ?_
    refine gX2_83 C X dX2_setFaulty_52 ?_
    refine b_i2l C dX2_setFaulty_55 ?_
    obtain ⟨r28, ec27, h27⟩ := bd0_inv h26; clear h26
    refine b_callSi (rest := []) C dX2_setFaulty_56 (ctX2_isOnGrid ec27) mf_X2_isOnGrid ms_X2_isOnGrid kl_X2_86 rfl ⟨rfl, rfl⟩ ⟨Nat.le_of_ble_eq_true rfl, Nat.le_of_ble_eq_true rfl⟩ ⟨Nat.zero_le _, Nat.zero_le _⟩ rfl (Nat.le_of_ble_eq_true rfl) ?_
    refine b_if_ne (tgt := 66) C dX2_setFaulty_59 (by decide) (fun c29 => ?_) (fun c29 => ?_)
    · have h30 := ineg h27 c29; clear h27
      refine b_aload_n C 0 dX2_setFaulty_66 rfl rfl ?_
      refine gX2_72 C X dX2_setFaulty_67 ?_
      refine b_if_eq (tgt := 77) C dX2_setFaulty_70 (by decide) (fun c32 => ?_) (fun c32 => ?_)
      · have h33 := ipos h30 c32; clear h30
        refine b_aload_n C 0 dX2_setFaulty_77 rfl rfl ?_
        refine gX2_34 C X dX2_setFaulty_78 ?_
        refine b_iload_n C 1 dX2_setFaulty_81 rfl rfl ?_
        obtain ⟨g36, h35⟩ := gdn h33; clear h33
        refine lX_10 C X g36 dX2_setFaulty_82 ?_
        obtain ⟨x37, ex37, h38⟩ := lt1_inv h35; clear h35
        refine b_nmI ex37 ?_
        refine b_istore (lv' := [(5, .int x37), (0, .ref (ad 0)), (1, .int a1), (2, .int a2), (3, .int a3), (4, .int a4)]) C dX2_setFaulty_83 (by decide) rfl ?_
        refine b_aload_n C 1 dX2_setFaulty_85 rfl rfl ?_
        refine gX2_34 C X dX2_setFaulty_86 ?_
        refine b_iload_n C 2 dX2_setFaulty_89 rfl rfl ?_
        refine b_iload_n C 3 dX2_setFaulty_90 rfl rfl ?_
        obtain ⟨g40, h39⟩ := gdn h38; clear h38
        refine aX_10 C X g40 dX2_setFaulty_91 ?_
        obtain ⟨σ41, eσ41, h42⟩ := lt1_inv h39; clear h39
        refine b_nmS eσ41 ?_
        refine b_aload_n C 1 dX2_setFaulty_92 rfl rfl ?_
        refine gX2_37 C X dX2_setFaulty_93 ?_
        refine b_iload_n C 2 dX2_setFaulty_96 rfl rfl ?_
        refine b_iload_n C 4 dX2_setFaulty_97 rfl rfl ?_
        refine b_i2l C dX2_setFaulty_98 ?_
        refine b_iload C 5 dX2_setFaulty_99 rfl ?_
        refine b_i2l C dX2_setFaulty_101 ?_
        refine b_aload_n C 1 dX2_setFaulty_102 rfl rfl ?_
        refine gX2_83 C X dX2_setFaulty_103 ?_
        refine b_i2l C dX2_setFaulty_106 ?_
        obtain ⟨r44, ec43, h43⟩ := bd0_inv h42; clear h42
        refine b_callSl (rest := [.int a1, .ref (ad 11)]) C dX2_setFaulty_107 (ctX2_inUnits ec43) mf_X2_inUnits ms_X2_inUnits kl_X2_90 rfl ⟨rfl, rfl⟩ ⟨Nat.le_of_ble_eq_true rfl, Nat.le_of_ble_eq_true rfl⟩ ⟨Nat.zero_le _, Nat.zero_le _⟩ rfl (Nat.le_of_ble_eq_true rfl) ?_
        obtain ⟨g46, h45⟩ := gdn h43; clear h43
        refine aX_11 C X g46 dX2_setFaulty_110 ?_
        obtain ⟨σ47, eσ47, h48⟩ := lt1_inv h45; clear h45
        refine b_nmS eσ47 ?_
        refine b_iload C 0 dX2_setFaulty_111 rfl ?_
        obtain ⟨rfl, rfl⟩ := so2 h48
        exact b_iret C dX2_setFaulty_113 hr
      have h34 := ineg h30 c32; clear h30
      refine b_sipush (v := (-1003 : Int32)) C dX2_setFaulty_73 (by decide) ?_
      obtain ⟨rfl, rfl⟩ := so2 h34
      exact b_iret C dX2_setFaulty_76 hr
    have h31 := ipos h27 c29; clear h27
    refine b_sipush (v := (-1002 : Int32)) C dX2_setFaulty_62 (by decide) ?_
    obtain ⟨rfl, rfl⟩ := so2 h31
    exact b_iret C dX2_setFaulty_65 hr
  have h11 := ipos h6 c9; clear h6
  refine b_sipush (v := (-1001 : Int32)) C dX2_setFaulty_8 (by decide) ?_
  obtain ⟨rfl, rfl⟩ := so2 h11
  exact b_iret C dX2_setFaulty_11 hr
def rmX2_setCorrect : Room := { frames := 1, cells := 0, slots := 0, locals := 21 }
def fX2_setCorrect (σ : St) (a1 : Int32) : Option (Int32 × St) :=
  bd2 (fX2_isNode σ a1) fun r5 σ4 =>
  if r5 = (0 : Int32) then (
  some ((-1001 : Int32), σ4))
  else (
  if (gI σ4 3) = (0 : Int32) then (
  if (a1 < 0 ∨ 10 ≤ (a1).toNatClampNeg) then none else
  lt1 (gF σ4 2 (a1).toNatClampNeg) fun x14 =>
  if (a1 < 0 ∨ 10 ≤ (a1).toNatClampNeg) then none else
  lt1 (sF σ4 2 (upd (gF σ4 2) (a1).toNatClampNeg (0 : Int32))) fun σ18 =>
  some (x14, σ18))
  else (
  some ((-1003 : Int32), σ4)))
theorem ctX2_setCorrect {l : Launch} {ad : Nat → Nat} {ca : Nat → ClassId} {σ : St} {a1 : Int32} {rf : Int32} {σf : St} (h : fX2_setCorrect σ a1 = some (rf, σf)) : Cw l yX2_setCorrect cX2_setCorrect 3 (some .int) rmX2_setCorrect [.ref (ad 0), .int a1] (wX ad ca) (tyX ca) σ (some (.int rf)) σf := by
  refine Cw_of (by decide) (sameX ad ca) (Nat.le_of_ble_eq_true rfl) ?_
  intro p e s m args below meth c D A C X hr
  replace C : Cb p s m args meth c RX2 cX2_setCorrect 3 := C
  have h2 := h; clear h
  refine b_sub (lv' := [(0, .ref (ad 0)), (1, .int a1)]) [0, 1] rfl ?_
  refine b_aload_n C 0 dX2_setCorrect_0 rfl rfl ?_
  refine b_iload_n C 1 dX2_setCorrect_1 rfl rfl ?_
  obtain ⟨r5, σ4, ec3, h3⟩ := bd2_inv h2; clear h2
  refine b_callWi (rest := []) C (sameX ad ca) X dX2_setCorrect_2 (ctX2_isNode ec3) mf_X2_isNode mi_X2_isNode kl_X2_68 0 rfl rfl rfl rfl ⟨rfl, rfl⟩ ⟨Nat.le_of_ble_eq_true rfl, Nat.le_of_ble_eq_true rfl⟩ ⟨Nat.zero_le _, Nat.zero_le _⟩ rfl (Nat.le_of_ble_eq_true rfl) ?_
  refine b_if_ne (tgt := 12) C dX2_setCorrect_5 (by decide) (fun c6 => ?_) (fun c6 => ?_)
  · have h7 := ineg h3 c6; clear h3
    refine b_aload_n C 0 dX2_setCorrect_12 rfl rfl ?_
    refine gX2_72 C X dX2_setCorrect_13 ?_
    refine b_if_eq (tgt := 23) C dX2_setCorrect_16 (by decide) (fun c9 => ?_) (fun c9 => ?_)
    · have h10 := ipos h7 c9; clear h7
      refine b_aload_n C 0 dX2_setCorrect_23 rfl rfl ?_
      refine gX2_34 C X dX2_setCorrect_24 ?_
      refine b_iload_n C 1 dX2_setCorrect_27 rfl rfl ?_
      obtain ⟨g13, h12⟩ := gdn h10; clear h10
      refine lX_10 C X g13 dX2_setCorrect_28 ?_
      obtain ⟨x14, ex14, h15⟩ := lt1_inv h12; clear h12
      refine b_nmI ex14 ?_
      refine b_istore_n (lv' := [(2, .int x14), (0, .ref (ad 0)), (1, .int a1)]) C dX2_setCorrect_29 rfl (by decide) rfl ?_
      refine b_aload_n C 1 dX2_setCorrect_30 rfl rfl ?_
      refine gX2_34 C X dX2_setCorrect_31 ?_
      refine b_iload_n C 2 dX2_setCorrect_34 rfl rfl ?_
      refine b_iconst (v := (0 : Int32)) C dX2_setCorrect_35 (by decide) ?_
      obtain ⟨g17, h16⟩ := gdn h15; clear h15
      refine aX_10 C X g17 dX2_setCorrect_36 ?_
      obtain ⟨σ18, eσ18, h19⟩ := lt1_inv h16; clear h16
      refine b_nmS eσ18 ?_
      refine b_iload_n C 0 dX2_setCorrect_37 rfl rfl ?_
      obtain ⟨rfl, rfl⟩ := so2 h19
      exact b_iret C dX2_setCorrect_38 hr
    have h11 := ineg h7 c9; clear h7
    refine b_sipush (v := (-1003 : Int32)) C dX2_setCorrect_19 (by decide) ?_
    obtain ⟨rfl, rfl⟩ := so2 h11
    exact b_iret C dX2_setCorrect_22 hr
  have h8 := ipos h3 c6; clear h3
  refine b_sipush (v := (-1001 : Int32)) C dX2_setCorrect_8 (by decide) ?_
  obtain ⟨rfl, rfl⟩ := so2 h8
  exact b_iret C dX2_setCorrect_11 hr
def rmX2_delayOf : Room := { frames := 0, cells := 0, slots := 0, locals := 0 }
def fX2_delayOf (σ : St) (a1 : Int32) (a2 : Int32) : Option (Int32 × St) :=
  lt1 ((a1 * (10 : Int32)) + a2) fun x4 =>
  if x4 < (0 : Int32) then (
  some ((-1 : Int32), σ))
  else (
  if (100 : Int32) ≤ x4 then (
  some ((-1 : Int32), σ))
  else (
  if (x4 < 0 ∨ 100 ≤ (x4).toNatClampNeg) then none else
  some ((gF σ 1 (x4).toNatClampNeg), σ)))
theorem ctX2_delayOf {l : Launch} {ad : Nat → Nat} {ca : Nat → ClassId} {σ : St} {a1 : Int32} {a2 : Int32} {rf : Int32} {σf : St} (h : fX2_delayOf σ a1 a2 = some (rf, σf)) : Cw l yX2_delayOf cX2_delayOf 4 (some .int) rmX2_delayOf [.ref (ad 0), .int a1, .int a2] (wX ad ca) (tyX ca) σ (some (.int rf)) σf := by
  refine Cw_of (by decide) (sameX ad ca) (Nat.le_of_ble_eq_true rfl) ?_
  intro p e s m args below meth c D A C X hr
  replace C : Cb p s m args meth c RX2 cX2_delayOf 4 := C
  have h3 := h; clear h
  refine b_sub (lv' := [(0, .ref (ad 0)), (1, .int a1), (2, .int a2)]) [0, 1, 2] rfl ?_
  refine b_iload_n C 1 dX2_delayOf_0 rfl rfl ?_
  refine b_bipush (v := (10 : Int32)) C dX2_delayOf_1 (by decide) ?_
  refine b_imul C dX2_delayOf_3 ?_
  refine b_iload_n C 2 dX2_delayOf_4 rfl rfl ?_
  refine b_iadd C dX2_delayOf_5 ?_
  obtain ⟨x4, ex4, h5⟩ := lt1_inv h3; clear h3
  refine b_nmI ex4 ?_
  refine b_istore_n (lv' := [(3, .int x4), (0, .ref (ad 0)), (1, .int a1), (2, .int a2)]) C dX2_delayOf_6 rfl (by decide) rfl ?_
  refine b_iload_n C 0 dX2_delayOf_7 rfl rfl ?_
  refine b_if_lt (tgt := 29) C dX2_delayOf_8 (by decide) (fun c6 => ?_) (fun c6 => ?_)
  · have h7 := ipos h5 c6; clear h5
    refine b_iconst (v := (-1 : Int32)) C dX2_delayOf_29 (by decide) ?_
    obtain ⟨rfl, rfl⟩ := so2 h7
    exact b_iret C dX2_delayOf_30 hr
  have h8 := ineg h5 c6; clear h5
  refine b_iload_n C 0 dX2_delayOf_11 rfl rfl ?_
  refine b_aload_n C 1 dX2_delayOf_12 rfl rfl ?_
  refine gX2_30 C X dX2_delayOf_13 ?_
  refine nX_9 C X dX2_delayOf_16 ?_
  refine b_icmp_ge (tgt := 29) C dX2_delayOf_17 (by decide) (fun c9 => ?_) (fun c9 => ?_)
  · have h10 := ipos h8 c9; clear h8
    refine b_iconst (v := (-1 : Int32)) C dX2_delayOf_29 (by decide) ?_
    obtain ⟨rfl, rfl⟩ := so2 h10
    exact b_iret C dX2_delayOf_30 hr
  have h11 := ineg h8 c9; clear h8
  refine b_aload_n C 1 dX2_delayOf_20 rfl rfl ?_
  refine gX2_30 C X dX2_delayOf_21 ?_
  refine b_iload_n C 0 dX2_delayOf_24 rfl rfl ?_
  obtain ⟨g13, h12⟩ := gdn h11; clear h11
  refine lX_9 C X g13 dX2_delayOf_25 ?_
  refine b_goto (tgt := 30) C dX2_delayOf_26 (by decide) ?_
  obtain ⟨rfl, rfl⟩ := so2 h12
  exact b_iret C dX2_delayOf_30 hr
def rmX2_setLink : Room := { frames := 2, cells := 0, slots := 0, locals := 43 }
def fX2_setLink (σ : St) (a1 : Int32) (a2 : Int32) (a3 : Int32) : Option (Int32 × St) :=
  bd2 (fX2_areTwoNodes σ a1 a2) fun r7 σ6 =>
  if r7 = (0 : Int32) then (
  some ((-1001 : Int32), σ6))
  else (
  bd0 (fX2_isWithin a3 (-1 : Int32) (3 : Int32)) fun r12 =>
  if r12 = (0 : Int32) then (
  some ((-1002 : Int32), σ6))
  else (
  bd2 (fX2_delayOf σ6 a1 a2) fun r18 σ17 =>
  if (((a1 * (10 : Int32)) + a2) < 0 ∨ 100 ≤ (((a1 * (10 : Int32)) + a2)).toNatClampNeg) then none else
  lt1 (sF σ17 1 (upd (gF σ17 1) (((a1 * (10 : Int32)) + a2)).toNatClampNeg a3)) fun σ21 =>
  some (r18, σ21)))
theorem ctX2_setLink {l : Launch} {ad : Nat → Nat} {ca : Nat → ClassId} {σ : St} {a1 : Int32} {a2 : Int32} {a3 : Int32} {rf : Int32} {σf : St} (h : fX2_setLink σ a1 a2 a3 = some (rf, σf)) : Cw l yX2_setLink cX2_setLink 5 (some .int) rmX2_setLink [.ref (ad 0), .int a1, .int a2, .int a3] (wX ad ca) (tyX ca) σ (some (.int rf)) σf := by
  refine Cw_of (by decide) (sameX ad ca) (Nat.le_of_ble_eq_true rfl) ?_
  intro p e s m args below meth c D A C X hr
  replace C : Cb p s m args meth c RX2 cX2_setLink 5 := C
  have h4 := h; clear h
  refine b_sub (lv' := [(0, .ref (ad 0)), (1, .int a1), (2, .int a2), (3, .int a3)]) [0, 1, 2, 3] rfl ?_
  refine b_aload_n C 0 dX2_setLink_0 rfl rfl ?_
  refine b_iload_n C 1 dX2_setLink_1 rfl rfl ?_
  refine b_iload_n C 2 dX2_setLink_2 rfl rfl ?_
  obtain ⟨r7, σ6, ec5, h5⟩ := bd2_inv h4; clear h4
  refine b_callWi (rest := []) C (sameX ad ca) X dX2_setLink_3 (ctX2_areTwoNodes ec5) mf_X2_areTwoNodes mi_X2_areTwoNodes kl_X2_79 0 rfl rfl rfl rfl ⟨rfl, rfl⟩ ⟨Nat.le_of_ble_eq_true rfl, Nat.le_of_ble_eq_true rfl⟩ ⟨Nat.zero_le _, Nat.zero_le _⟩ rfl (Nat.le_of_ble_eq_true rfl) ?_
  refine b_if_ne (tgt := 13) C dX2_setLink_6 (by decide) (fun c8 => ?_) (fun c8 => ?_)
  · have h9 := ineg h5 c8; clear h5
    refine b_iload_n C 3 dX2_setLink_13 rfl rfl ?_
    refine b_iconst (v := (-1 : Int32)) C dX2_setLink_14 (by decide) ?_
    refine b_iconst (v := (3 : Int32)) C dX2_setLink_15 (by decide) ?_
    obtain ⟨r12, ec11, h11⟩ := bd0_inv h9; clear h9
    refine b_callSi (rest := []) C dX2_setLink_16 (ctX2_isWithin ec11) mf_X2_isWithin ms_X2_isWithin kl_X2_49 rfl ⟨rfl, rfl⟩ ⟨Nat.le_of_ble_eq_true rfl, Nat.le_of_ble_eq_true rfl⟩ ⟨Nat.zero_le _, Nat.zero_le _⟩ rfl (Nat.le_of_ble_eq_true rfl) ?_
    refine b_if_ne (tgt := 26) C dX2_setLink_19 (by decide) (fun c13 => ?_) (fun c13 => ?_)
    · have h14 := ineg h11 c13; clear h11
      refine b_aload_n C 0 dX2_setLink_26 rfl rfl ?_
      refine b_iload_n C 1 dX2_setLink_27 rfl rfl ?_
      refine b_iload_n C 2 dX2_setLink_28 rfl rfl ?_
      obtain ⟨r18, σ17, ec16, h16⟩ := bd2_inv h14; clear h14
      refine b_callWi (rest := []) C (sameX ad ca) X dX2_setLink_29 (ctX2_delayOf ec16) mf_X2_delayOf mi_X2_delayOf kl_X2_94 0 rfl rfl rfl rfl ⟨rfl, rfl⟩ ⟨Nat.le_of_ble_eq_true rfl, Nat.le_of_ble_eq_true rfl⟩ ⟨Nat.zero_le _, Nat.zero_le _⟩ rfl (Nat.le_of_ble_eq_true rfl) ?_
      refine b_istore (lv' := [(4, .int r18), (0, .ref (ad 0)), (1, .int a1), (2, .int a2), (3, .int a3)]) C dX2_setLink_32 (by decide) rfl ?_
      refine b_aload_n C 1 dX2_setLink_34 rfl rfl ?_
      refine gX2_30 C X dX2_setLink_35 ?_
      refine b_iload_n C 2 dX2_setLink_38 rfl rfl ?_
      refine b_bipush (v := (10 : Int32)) C dX2_setLink_39 (by decide) ?_
      refine b_imul C dX2_setLink_41 ?_
      refine b_iload_n C 3 dX2_setLink_42 rfl rfl ?_
      refine b_iadd C dX2_setLink_43 ?_
      refine b_iload_n C 4 dX2_setLink_44 rfl rfl ?_
      obtain ⟨g20, h19⟩ := gdn h16; clear h16
      refine aX_9 C X g20 dX2_setLink_45 ?_
      obtain ⟨σ21, eσ21, h22⟩ := lt1_inv h19; clear h19
      refine b_nmS eσ21 ?_
      refine b_iload C 0 dX2_setLink_46 rfl ?_
      obtain ⟨rfl, rfl⟩ := so2 h22
      exact b_iret C dX2_setLink_48 hr
    have h15 := ipos h11 c13; clear h11
    refine b_sipush (v := (-1002 : Int32)) C dX2_setLink_22 (by decide) ?_
    obtain ⟨rfl, rfl⟩ := so2 h15
    exact b_iret C dX2_setLink_25 hr
  have h10 := ipos h5 c8; clear h5
  refine b_sipush (v := (-1001 : Int32)) C dX2_setLink_9 (by decide) ?_
  obtain ⟨rfl, rfl⟩ := so2 h10
  exact b_iret C dX2_setLink_12 hr
