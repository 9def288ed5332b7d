def rmX3_end : Room := { frames := 0, cells := 0, slots := 0, locals := 0 }
def fX3_end (σ : St) (a1 : Int32) (a2 : Int32) (a3 : Int32) : Option (Int64 × St) :=
  if (((((20 : Int32) * a2) + ((2 : Int32) * a1)) + a3) < 0 ∨ 1220 ≤ (((((20 : Int32) * a2) + ((2 : Int32) * a1)) + a3)).toNatClampNeg) then none else
  some ((gG σ 4 (((((20 : Int32) * a2) + ((2 : Int32) * a1)) + a3)).toNatClampNeg), σ)
theorem ctX3_end {l : Launch} {ad : Nat → Nat} {ca : Nat → ClassId} {σ : St} {a1 : Int32} {a2 : Int32} {a3 : Int32} {rf : Int64} {σf : St} (h : fX3_end σ a1 a2 a3 = some (rf, σf)) : Cw l yX3_end cX3_end 4 (some .long) rmX3_end [.ref (ad 0), .int a1, .int a2, .int a3] (wM ad ca) (tyM ca) σ (some (.long rf)) σf := by
  refine Cw_of (by decide) (sameM ad ca) (Nat.le_of_ble_eq_true rfl) ?_
  intro p e s m args below meth c D A C X hr
  replace C : Cb p s m args meth c RX3 cX3_end 4 := C
  have h4 := h; clear h
  refine b_sub (lv' := [(0, .ref (ad 0)), (1, .int a1), (2, .int a2), (3, .int a3)]) [0, 1, 2, 3] rfl ?_
  refine b_aload_n C 0 dX3_end_0 rfl rfl ?_
  refine gX3_29 C X dX3_end_1 ?_
  refine b_bipush (v := (20 : Int32)) C dX3_end_4 (by decide) ?_
  refine b_iload_n C 2 dX3_end_6 rfl rfl ?_
  refine b_imul C dX3_end_7 ?_
  refine b_iconst (v := (2 : Int32)) C dX3_end_8 (by decide) ?_
  refine b_iload_n C 1 dX3_end_9 rfl rfl ?_
  refine b_imul C dX3_end_10 ?_
  refine b_iadd C dX3_end_11 ?_
  refine b_iload_n C 3 dX3_end_12 rfl rfl ?_
  refine b_iadd C dX3_end_13 ?_
  obtain ⟨g6, h5⟩ := gdn h4; clear h4
  refine lM_7 C X g6 dX3_end_14 ?_
  obtain ⟨rfl, rfl⟩ := so2 h5
  exact b_lret C dX3_end_15 hr
def rmX3_areSame : Room := { frames := 1, cells := 0, slots := 0, locals := 23 }
def fX3_areSame (σ : St) (a1 : Int32) (a2 : Int32) : Option (Int32 × St) :=
  bd2 (fX3_end σ a1 (gI σ 3) (0 : Int32)) fun r6 σ5 =>
  bd2 (fX3_end σ5 a2 (gI σ5 3) (0 : Int32)) fun r9 σ8 =>
  if r6 = r9 then (
  bd2 (fX3_end σ8 a1 (gI σ8 3) (1 : Int32)) fun r15 σ14 =>
  bd2 (fX3_end σ14 a2 (gI σ14 3) (1 : Int32)) fun r18 σ17 =>
  if r15 = r18 then (
  some ((1 : Int32), σ17))
  else (
  some ((0 : Int32), σ17)))
  else (
  some ((0 : Int32), σ8))
theorem ctX3_areSame {l : Launch} {ad : Nat → Nat} {ca : Nat → ClassId} {σ : St} {a1 : Int32} {a2 : Int32} {rf : Int32} {σf : St} (h : fX3_areSame σ a1 a2 = some (rf, σf)) : Cw l yX3_areSame cX3_areSame 3 (some .boolean) rmX3_areSame [.ref (ad 0), .int a1, .int a2] (wM ad ca) (tyM ca) σ (some (.int rf)) σf := by
  refine Cw_of (by decide) (sameM ad ca) (Nat.le_of_ble_eq_true rfl) ?_
  intro p e s m args below meth c D A C X hr
  replace C : Cb p s m args meth c RX3 cX3_areSame 3 := C
  have h3 := h; clear h
  refine b_sub (lv' := [(0, .ref (ad 0)), (1, .int a1), (2, .int a2)]) [0, 1, 2] rfl ?_
  refine b_aload_n C 0 dX3_areSame_0 rfl rfl ?_
  refine b_iload_n C 1 dX3_areSame_1 rfl rfl ?_
  refine b_aload_n C 0 dX3_areSame_2 rfl rfl ?_
  refine gX3_64 C X dX3_areSame_3 ?_
  refine b_iconst (v := (0 : Int32)) C dX3_areSame_6 (by decide) ?_
  obtain ⟨r6, σ5, ec4, h4⟩ := bd2_inv h3; clear h3
  refine b_callWl (rest := []) C (sameM ad ca) X dX3_areSame_7 (ctX3_end ec4) mf_X3_end mi_X3_end kl_X3_136 0 rfl rfl rfl rfl ⟨rfl, rfl⟩ ⟨Nat.le_of_ble_eq_true rfl, Nat.le_of_ble_eq_true rfl⟩ ⟨Nat.zero_le _, Nat.zero_le _⟩ rfl (Nat.le_of_ble_eq_true rfl) ?_
  refine b_aload_n C 0 dX3_areSame_10 rfl rfl ?_
  refine b_iload_n C 2 dX3_areSame_11 rfl rfl ?_
  refine b_aload_n C 0 dX3_areSame_12 rfl rfl ?_
  refine gX3_64 C X dX3_areSame_13 ?_
  refine b_iconst (v := (0 : Int32)) C dX3_areSame_16 (by decide) ?_
  obtain ⟨r9, σ8, ec7, h7⟩ := bd2_inv h4; clear h4
  refine b_callWl (rest := [.long r6]) C (sameM ad ca) X dX3_areSame_17 (ctX3_end ec7) mf_X3_end mi_X3_end kl_X3_136 0 rfl rfl rfl rfl ⟨rfl, rfl⟩ ⟨Nat.le_of_ble_eq_true rfl, Nat.le_of_ble_eq_true rfl⟩ ⟨Nat.zero_le _, Nat.zero_le _⟩ rfl (Nat.le_of_ble_eq_true rfl) ?_
  refine b_lc_ne (tgt := 52) C dX3_areSame_20 dX3_areSame_21 (by decide) (fun c10 => ?_) (fun c10 => ?_)
  · have h11 := ineg h7 c10; clear h7
    refine b_iconst (v := (0 : Int32)) C dX3_areSame_52 (by decide) ?_
    obtain ⟨rfl, rfl⟩ := so2 h11
    exact b_zret C dX3_areSame_53 hr rfl
  have h12 := ipos h7 c10; clear h7
  refine b_aload_n C 0 dX3_areSame_24 rfl rfl ?_
  refine b_iload_n C 1 dX3_areSame_25 rfl rfl ?_
  refine b_aload_n C 0 dX3_areSame_26 rfl rfl ?_
  refine gX3_64 C X dX3_areSame_27 ?_
  refine b_iconst (v := (1 : Int32)) C dX3_areSame_30 (by decide) ?_
  obtain ⟨r15, σ14, ec13, h13⟩ := bd2_inv h12; clear h12
  refine b_callWl (rest := []) C (sameM ad ca) X dX3_areSame_31 (ctX3_end ec13) mf_X3_end mi_X3_end kl_X3_136 0 rfl rfl rfl rfl ⟨rfl, rfl⟩ ⟨Nat.le_of_ble_eq_true rfl, Nat.le_of_ble_eq_true rfl⟩ ⟨Nat.zero_le _, Nat.zero_le _⟩ rfl (Nat.le_of_ble_eq_true rfl) ?_
  refine b_aload_n C 0 dX3_areSame_34 rfl rfl ?_
  refine b_iload_n C 2 dX3_areSame_35 rfl rfl ?_
  refine b_aload_n C 0 dX3_areSame_36 rfl rfl ?_
  refine gX3_64 C X dX3_areSame_37 ?_
  refine b_iconst (v := (1 : Int32)) C dX3_areSame_40 (by decide) ?_
  obtain ⟨r18, σ17, ec16, h16⟩ := bd2_inv h13; clear h13
  refine b_callWl (rest := [.long r15]) C (sameM ad ca) X dX3_areSame_41 (ctX3_end ec16) mf_X3_end mi_X3_end kl_X3_136 0 rfl rfl rfl rfl ⟨rfl, rfl⟩ ⟨Nat.le_of_ble_eq_true rfl, Nat.le_of_ble_eq_true rfl⟩ ⟨Nat.zero_le _, Nat.zero_le _⟩ rfl (Nat.le_of_ble_eq_true rfl) ?_
  refine b_lc_ne (tgt := 52) C dX3_areSame_44 dX3_areSame_45 (by decide) (fun c19 => ?_) (fun c19 => ?_)
  · have h20 := ineg h16 c19; clear h16
    refine b_iconst (v := (0 : Int32)) C dX3_areSame_52 (by decide) ?_
    obtain ⟨rfl, rfl⟩ := so2 h20
    exact b_zret C dX3_areSame_53 hr rfl
  have h21 := ipos h16 c19; clear h16
  refine b_iconst (v := (1 : Int32)) C dX3_areSame_48 (by decide) ?_
  refine b_goto (tgt := 53) C dX3_areSame_49 (by decide) ?_
  obtain ⟨rfl, rfl⟩ := so2 h21
  exact b_zret C dX3_areSame_53 hr rfl
def rmX3_sameBelow : Room := { frames := 2, cells := 0, slots := 0, locals := 45 }
def fX3_sameBelow_5b (N : Nat) (q44 : St → Int32 → Option (Int32 × St)) (q5 : St → Int32 → Int32 → Int32 → Int32 → Option (Int32 × St)) (σ8 : St) (x4 : Int32) (x5 : Int32) (x6 : Int32) (x7 : Int32) : Option (Int32 × St) :=
  if x5 ≤ x7 then (
  q44 σ8 x6)
  else (
  bd2 (fX3_isCorrect σ8 x7) fun r15 σ14 =>
  if r15 = (0 : Int32) then (
  lt1 (x6 + (0 : Int32)) fun x19 =>
  lt1 (x7 + (1 : Int32)) fun x21 =>
  q5 σ14 x4 x5 x19 x21)
  else (
  bd2 (fX3_areSame σ14 x4 x7) fun r25 σ24 =>
  if r25 = (0 : Int32) then (
  lt1 (x6 + (0 : Int32)) fun x29 =>
  lt1 (x7 + (1 : Int32)) fun x31 =>
  q5 σ24 x4 x5 x29 x31)
  else (
  lt1 (x6 + (1 : Int32)) fun x33 =>
  lt1 (x7 + (1 : Int32)) fun x35 =>
  q5 σ24 x4 x5 x33 x35)))
def fX3_sameBelow_5 (N : Nat) (q44 : St → Int32 → Option (Int32 × St)) : Nat → St → Int32 → Int32 → Int32 → Int32 → Option (Int32 × St)
  | 0, _, _, _, _, _ => none
  | n + 1, σ, x4, x5, x6, x7 => fX3_sameBelow_5b N q44 (fX3_sameBelow_5 N q44 n) σ x4 x5 x6 x7
def fX3_sameBelow (N : Nat) (σ : St) (a1 : Int32) (a2 : Int32) : Option (Int32 × St) :=
  fX3_sameBelow_5 N (fun σ38 x37 =>
 some (x37, σ38)) N σ a1 a2 (0 : Int32) (0 : Int32)
theorem wX3_sameBelow_5 {l : Launch} {p : Program} {e : Env} {s : State} {m : MethodId} {args : Array Value} {below : List Frame} {meth : Method} {c : Code} {D : va_G} {A : Nat → Prop} {ad : Nat → Nat} {ca : Nat → ClassId} {rf : Int32} {σf : St} (C : Cb p s m args meth c RX3 cX3_sameBelow 5) (X : Cx s D A (wM ad ca) (tyM ca)) (hr : meth.sig.returnType = (some .int)) {N : Nat} {q44 : St → Int32 → Option (Int32 × St)} (hq44 : ∀ (σ : St) (y0 : Int32), q44 σ y0 = some (rf, σf) → bW p l e rmX3_sameBelow s m args below meth c 0 0 (MQ below (Qw D (wM ad ca) σf (some (.int rf)) A) args s 0 0 A) 5 (wd D A (wM ad ca) s σ) 44 [(3, .int y0)] []) : ∀ n : Nat, ∀ (σ : St) (y0 : Int32) (y1 : Int32) (y2 : Int32) (y3 : Int32), fX3_sameBelow_5 N q44 n σ y0 y1 y2 y3 = some (rf, σf) → bW p l e rmX3_sameBelow s m args below meth c 0 0 (MQ below (Qw D (wM ad ca) σf (some (.int rf)) A) args s 0 0 A) 5 (wd D A (wM ad ca) s σ) 5 [(0, .ref (ad 0)), (1, .int y0), (2, .int y1), (3, .int y2), (4, .int y3)] [] := by
  intro n
  induction n with
  | zero => intro σ8 x4 x5 x6 x7 h9; exact nn h9
  | succ n hq5 =>
    intro σ8 x4 x5 x6 x7 h9
    replace h9 : fX3_sameBelow_5b N q44 (fX3_sameBelow_5 N q44 n) σ8 x4 x5 x6 x7 = some (rf, σf) := h9
    refine b_iload C 4 dX3_sameBelow_5 rfl ?_
    refine b_iload_n C 2 dX3_sameBelow_7 rfl rfl ?_
    refine b_icmp_ge (tgt := 44) C dX3_sameBelow_8 (by decide) (fun c10 => ?_) (fun c10 => ?_)
    · have h11 := ipos h9 c10; clear h9
      exact b_sub [3] rfl (hq44 _ _ h11)
    have h12 := ineg h9 c10; clear h9
    refine b_iload_n C 3 dX3_sameBelow_11 rfl rfl ?_
    refine b_aload_n C 0 dX3_sameBelow_12 rfl rfl ?_
    refine b_iload C 4 dX3_sameBelow_13 rfl ?_
    obtain ⟨r15, σ14, ec13, h13⟩ := bd2_inv h12; clear h12
    refine b_callWi (rest := [.int x6]) C (sameM ad ca) X dX3_sameBelow_15 (ctX3_isCorrect ec13) mf_X3_isCorrect mi_X3_isCorrect kl_X3_133 0 rfl rfl rfl rfl ⟨rfl, rfl⟩ ⟨Nat.le_of_ble_eq_true rfl, Nat.le_of_ble_eq_true rfl⟩ ⟨Nat.zero_le _, Nat.zero_le _⟩ rfl (Nat.le_of_ble_eq_true rfl) ?_
    refine b_if_eq (tgt := 35) C dX3_sameBelow_18 (by decide) (fun c16 => ?_) (fun c16 => ?_)
    · have h17 := ipos h13 c16; clear h13
      refine b_iconst (v := (0 : Int32)) C dX3_sameBelow_35 (by decide) ?_
      refine b_iadd C dX3_sameBelow_36 ?_
      obtain ⟨x19, ex19, h20⟩ := lt1_inv h17; clear h17
      refine b_nmI ex19 ?_
      refine b_istore_n (lv' := [(3, .int x19), (0, .ref (ad 0)), (1, .int x4), (2, .int x5), (4, .int x7)]) C dX3_sameBelow_37 rfl (by decide) rfl ?_
      obtain ⟨x21, ex21, h22⟩ := lt1_inv h20; clear h20
      refine b_iinc (v := x21) (lv' := [(4, .int x21), (3, .int x19), (0, .ref (ad 0)), (1, .int x4), (2, .int x5)]) C 4 dX3_sameBelow_38 rfl (by rw [ex21]; rfl) (by decide) rfl ?_
      refine b_goto (tgt := 5) C dX3_sameBelow_41 (by decide) ?_
      exact b_sub [2, 3, 4, 1, 0] rfl (hq5 _ _ _ _ _ h22)
    have h18 := ineg h13 c16; clear h13
    refine b_aload_n C 0 dX3_sameBelow_21 rfl rfl ?_
    refine b_iload_n C 1 dX3_sameBelow_22 rfl rfl ?_
    refine b_iload C 4 dX3_sameBelow_23 rfl ?_
    obtain ⟨r25, σ24, ec23, h23⟩ := bd2_inv h18; clear h18
    refine b_callWi (rest := [.int x6]) C (sameM ad ca) X dX3_sameBelow_25 (ctX3_areSame ec23) mf_X3_areSame mi_X3_areSame kl_X3_140 0 rfl rfl rfl rfl ⟨rfl, rfl⟩ ⟨Nat.le_of_ble_eq_true rfl, Nat.le_of_ble_eq_true rfl⟩ ⟨Nat.zero_le _, Nat.zero_le _⟩ rfl (Nat.le_of_ble_eq_true rfl) ?_
    refine b_if_eq (tgt := 35) C dX3_sameBelow_28 (by decide) (fun c26 => ?_) (fun c26 => ?_)
    · have h27 := ipos h23 c26; clear h23
      refine b_iconst (v := (0 : Int32)) C dX3_sameBelow_35 (by decide) ?_
      refine b_iadd C dX3_sameBelow_36 ?_
      obtain ⟨x29, ex29, h30⟩ := lt1_inv h27; clear h27
      refine b_nmI ex29 ?_
      refine b_istore_n (lv' := [(3, .int x29), (0, .ref (ad 0)), (1, .int x4), (2, .int x5), (4, .int x7)]) C dX3_sameBelow_37 rfl (by decide) rfl ?_
      obtain ⟨x31, ex31, h32⟩ := lt1_inv h30; clear h30
      refine b_iinc (v := x31) (lv' := [(4, .int x31), (3, .int x29), (0, .ref (ad 0)), (1, .int x4), (2, .int x5)]) C 4 dX3_sameBelow_38 rfl (by rw [ex31]; rfl) (by decide) rfl ?_
      refine b_goto (tgt := 5) C dX3_sameBelow_41 (by decide) ?_
      exact b_sub [2, 3, 4, 1, 0] rfl (hq5 _ _ _ _ _ h32)
    have h28 := ineg h23 c26; clear h23
    refine b_iconst (v := (1 : Int32)) C dX3_sameBelow_31 (by decide) ?_
    refine b_goto (tgt := 36) C dX3_sameBelow_32 (by decide) ?_
    refine b_iadd C dX3_sameBelow_36 ?_
    obtain ⟨x33, ex33, h34⟩ := lt1_inv h28; clear h28
    refine b_nmI ex33 ?_
    refine b_istore_n (lv' := [(3, .int x33), (0, .ref (ad 0)), (1, .int x4), (2, .int x5), (4, .int x7)]) C dX3_sameBelow_37 rfl (by decide) rfl ?_
    obtain ⟨x35, ex35, h36⟩ := lt1_inv h34; clear h34
    refine b_iinc (v := x35) (lv' := [(4, .int x35), (3, .int x33), (0, .ref (ad 0)), (1, .int x4), (2, .int x5)]) C 4 dX3_sameBelow_38 rfl (by rw [ex35]; rfl) (by decide) rfl ?_
    refine b_goto (tgt := 5) C dX3_sameBelow_41 (by decide) ?_
    exact b_sub [2, 3, 4, 1, 0] rfl (hq5 _ _ _ _ _ h36)
theorem ctX3_sameBelow {l : Launch} {ad : Nat → Nat} {ca : Nat → ClassId} {N : Nat} {σ : St} {a1 : Int32} {a2 : Int32} {rf : Int32} {σf : St} (h : fX3_sameBelow N σ a1 a2 = some (rf, σf)) : Cw l yX3_sameBelow cX3_sameBelow 5 (some .int) rmX3_sameBelow [.ref (ad 0), .int a1, .int a2] (wM ad ca) (tyM ca) σ (some (.int rf)) σf := by
  refine Cw_of (by decide) (sameM ad ca) (Nat.le_of_ble_eq_true rfl) ?_
  intro p e s m args below meth c D A C X hr
  replace C : Cb p s m args meth c RX3 cX3_sameBelow 5 := C
  have h3 := h; clear h
  refine b_sub (lv' := [(0, .ref (ad 0)), (1, .int a1), (2, .int a2)]) [0, 1, 2] rfl ?_
  refine b_iconst (v := (0 : Int32)) C dX3_sameBelow_0 (by decide) ?_
  refine b_istore_n (lv' := [(3, .int (0 : Int32)), (0, .ref (ad 0)), (1, .int a1), (2, .int a2)]) C dX3_sameBelow_1 rfl (by decide) rfl ?_
  refine b_iconst (v := (0 : Int32)) C dX3_sameBelow_2 (by decide) ?_
  refine b_istore (lv' := [(4, .int (0 : Int32)), (3, .int (0 : Int32)), (0, .ref (ad 0)), (1, .int a1), (2, .int a2)]) C dX3_sameBelow_3 (by decide) rfl ?_
  refine b_sub [2, 3, 4, 1, 0] rfl (wX3_sameBelow_5 C X hr (fun σ38 x37 h39 => ?_) _ _ _ _ _ _ h3)
  refine b_iload_n C 0 dX3_sameBelow_44 rfl rfl ?_
  obtain ⟨rfl, rfl⟩ := so2 h39
  exact b_iret C dX3_sameBelow_45 hr
def rmX3_count : Room := { frames := 3, cells := 0, slots := 0, locals := 69 }
def fX3_count_4b (N : Nat) (q43 : St → Int32 → Int32 → Option (Int32 × St)) (q4 : St → Int32 → Int32 → Int32 → Option (Int32 × St)) (σ6 : St) (x3 : Int32) (x4 : Int32) (x5 : Int32) : Option (Int32 × St) :=
  if (gI σ6 0) ≤ x5 then (
  q43 σ6 x3 x4)
  else (
  bd2 (fX3_isCorrect σ6 x5) fun r13 σ12 =>
  if r13 = (0 : Int32) then (
  lt1 (x4 + (0 : Int32)) fun x17 =>
  lt1 (x5 + (1 : Int32)) fun x19 =>
  q4 σ12 x3 x17 x19)
  else (
  bd2 (fX3_sameBelow N σ12 x5 x5) fun r23 σ22 =>
  if r23 = (0 : Int32) then (
  lt1 (x4 + (1 : Int32)) fun x31 =>
  lt1 (x5 + (1 : Int32)) fun x33 =>
  q4 σ22 x3 x31 x33)
  else (
  lt1 (x4 + (0 : Int32)) fun x27 =>
  lt1 (x5 + (1 : Int32)) fun x29 =>
  q4 σ22 x3 x27 x29)))
def fX3_count_4 (N : Nat) (q43 : St → Int32 → Int32 → Option (Int32 × St)) : Nat → St → Int32 → Int32 → Int32 → Option (Int32 × St)
  | 0, _, _, _, _ => none
  | n + 1, σ, x3, x4, x5 => fX3_count_4b N q43 (fX3_count_4 N q43 n) σ x3 x4 x5
def fX3_count (N : Nat) (σ : St) (a1 : Int32) : Option (Int32 × St) :=
  fX3_count_4 N (fun σ37 x35 x36 =>
 if x35 = (0 : Int32) then (
  some ((gI σ37 0), σ37))
  else if x35 = (1 : Int32) then (
  some ((gI σ37 1), σ37))
  else if x35 = (2 : Int32) then (
  some (((gJ σ37 0).toInt32), σ37))
  else if x35 = (3 : Int32) then (
  some ((gI σ37 3), σ37))
  else if x35 = (4 : Int32) then (
  bd2 (fX3_faulty N σ37) fun r56 σ55 =>
  some (r56, σ55))
  else if x35 = (5 : Int32) then (
  some ((gI σ37 2), σ37))
  else if x35 = (6 : Int32) then (
  bd2 (fX3_links N σ37) fun r65 σ64 =>
  some (r65, σ64))
  else if x35 = (7 : Int32) then (
  some (x36, σ37))
  else (
  some ((-1002 : Int32), σ37))) N σ a1 (0 : Int32) (0 : Int32)
theorem wX3_count_4 {l : Launch} {p : Program} {e : Env} {s : State} {m : MethodId} {args : Array Value} {below : List Frame} {meth : Method} {c : Code} {D : va_G} {A : Nat → Prop} {ad : Nat → Nat} {ca : Nat → ClassId} {rf : Int32} {σf : St} (C : Cb p s m args meth c RX3 cX3_count 4) (X : Cx s D A (wM ad ca) (tyM ca)) (hr : meth.sig.returnType = (some .int)) {N : Nat} {q43 : St → Int32 → Int32 → Option (Int32 × St)} (hq43 : ∀ (σ : St) (y0 : Int32) (y1 : Int32), q43 σ y0 y1 = some (rf, σf) → bW p l e rmX3_count s m args below meth c 0 0 (MQ below (Qw D (wM ad ca) σf (some (.int rf)) A) args s 0 0 A) 4 (wd D A (wM ad ca) s σ) 43 [(0, .ref (ad 0)), (1, .int y0), (2, .int y1)] []) : ∀ n : Nat, ∀ (σ : St) (y0 : Int32) (y1 : Int32) (y2 : Int32), fX3_count_4 N q43 n σ y0 y1 y2 = some (rf, σf) → bW p l e rmX3_count s m args below meth c 0 0 (MQ below (Qw D (wM ad ca) σf (some (.int rf)) A) args s 0 0 A) 4 (wd D A (wM ad ca) s σ) 4 [(0, .ref (ad 0)), (1, .int y0), (2, .int y1), (3, .int y2)] [] := by
  intro n
  induction n with
  | zero => intro σ6 x3 x4 x5 h7; exact nn h7
  | succ n hq4 =>
    intro σ6 x3 x4 x5 h7
    replace h7 : fX3_count_4b N q43 (fX3_count_4 N q43 n) σ6 x3 x4 x5 = some (rf, σf) := h7
    refine b_iload_n C 3 dX3_count_4 rfl rfl ?_
    refine b_aload_n C 0 dX3_count_5 rfl rfl ?_
    refine gX3_50 C X dX3_count_6 ?_
    refine b_icmp_ge (tgt := 43) C dX3_count_9 (by decide) (fun c8 => ?_) (fun c8 => ?_)
    · have h9 := ipos h7 c8; clear h7
      exact b_sub [0, 1, 2] rfl (hq43 _ _ _ h9)
    have h10 := ineg h7 c8; clear h7
    refine b_iload_n C 2 dX3_count_12 rfl rfl ?_
    refine b_aload_n C 0 dX3_count_13 rfl rfl ?_
    refine b_iload_n C 3 dX3_count_14 rfl rfl ?_
    obtain ⟨r13, σ12, ec11, h11⟩ := bd2_inv h10; clear h10
    refine b_callWi (rest := [.int x4]) C (sameM ad ca) X dX3_count_15 (ctX3_isCorrect ec11) mf_X3_isCorrect mi_X3_isCorrect kl_X3_133 0 rfl rfl rfl rfl ⟨rfl, rfl⟩ ⟨Nat.le_of_ble_eq_true rfl, Nat.le_of_ble_eq_true rfl⟩ ⟨Nat.zero_le _, Nat.zero_le _⟩ rfl (Nat.le_of_ble_eq_true rfl) ?_
    refine b_if_eq (tgt := 34) C dX3_count_18 (by decide) (fun c14 => ?_) (fun c14 => ?_)
    · have h15 := ipos h11 c14; clear h11
      refine b_iconst (v := (0 : Int32)) C dX3_count_34 (by decide) ?_
      refine b_iadd C dX3_count_35 ?_
      obtain ⟨x17, ex17, h18⟩ := lt1_inv h15; clear h15
      refine b_nmI ex17 ?_
      refine b_istore_n (lv' := [(2, .int x17), (0, .ref (ad 0)), (1, .int x3), (3, .int x5)]) C dX3_count_36 rfl (by decide) rfl ?_
      obtain ⟨x19, ex19, h20⟩ := lt1_inv h18; clear h18
      refine b_iinc (v := x19) (lv' := [(3, .int x19), (2, .int x17), (0, .ref (ad 0)), (1, .int x3)]) C 3 dX3_count_37 rfl (by rw [ex19]; rfl) (by decide) rfl ?_
      refine b_goto (tgt := 4) C dX3_count_40 (by decide) ?_
      exact b_sub [2, 3, 1, 0] rfl (hq4 _ _ _ _ h20)
    have h16 := ineg h11 c14; clear h11
    refine b_aload_n C 0 dX3_count_21 rfl rfl ?_
    refine b_iload_n C 3 dX3_count_22 rfl rfl ?_
    refine b_iload_n C 3 dX3_count_23 rfl rfl ?_
    obtain ⟨r23, σ22, ec21, h21⟩ := bd2_inv h16; clear h16
    refine b_callWi (rest := [.int x4]) C (sameM ad ca) X dX3_count_24 (ctX3_sameBelow ec21) mf_X3_sameBelow mi_X3_sameBelow kl_X3_143 0 rfl rfl rfl rfl ⟨rfl, rfl⟩ ⟨Nat.le_of_ble_eq_true rfl, Nat.le_of_ble_eq_true rfl⟩ ⟨Nat.zero_le _, Nat.zero_le _⟩ rfl (Nat.le_of_ble_eq_true rfl) ?_
    refine b_if_ne (tgt := 34) C dX3_count_27 (by decide) (fun c24 => ?_) (fun c24 => ?_)
    · have h25 := ineg h21 c24; clear h21
      refine b_iconst (v := (0 : Int32)) C dX3_count_34 (by decide) ?_
      refine b_iadd C dX3_count_35 ?_
      obtain ⟨x27, ex27, h28⟩ := lt1_inv h25; clear h25
      refine b_nmI ex27 ?_
      refine b_istore_n (lv' := [(2, .int x27), (0, .ref (ad 0)), (1, .int x3), (3, .int x5)]) C dX3_count_36 rfl (by decide) rfl ?_
      obtain ⟨x29, ex29, h30⟩ := lt1_inv h28; clear h28
      refine b_iinc (v := x29) (lv' := [(3, .int x29), (2, .int x27), (0, .ref (ad 0)), (1, .int x3)]) C 3 dX3_count_37 rfl (by rw [ex29]; rfl) (by decide) rfl ?_
      refine b_goto (tgt := 4) C dX3_count_40 (by decide) ?_
      exact b_sub [2, 3, 1, 0] rfl (hq4 _ _ _ _ h30)
    have h26 := ipos h21 c24; clear h21
    refine b_iconst (v := (1 : Int32)) C dX3_count_30 (by decide) ?_
    refine b_goto (tgt := 35) C dX3_count_31 (by decide) ?_
    refine b_iadd C dX3_count_35 ?_
    obtain ⟨x31, ex31, h32⟩ := lt1_inv h26; clear h26
    refine b_nmI ex31 ?_
    refine b_istore_n (lv' := [(2, .int x31), (0, .ref (ad 0)), (1, .int x3), (3, .int x5)]) C dX3_count_36 rfl (by decide) rfl ?_
    obtain ⟨x33, ex33, h34⟩ := lt1_inv h32; clear h32
    refine b_iinc (v := x33) (lv' := [(3, .int x33), (2, .int x31), (0, .ref (ad 0)), (1, .int x3)]) C 3 dX3_count_37 rfl (by rw [ex33]; rfl) (by decide) rfl ?_
    refine b_goto (tgt := 4) C dX3_count_40 (by decide) ?_
    exact b_sub [2, 3, 1, 0] rfl (hq4 _ _ _ _ h34)
theorem ctX3_count {l : Launch} {ad : Nat → Nat} {ca : Nat → ClassId} {N : Nat} {σ : St} {a1 : Int32} {rf : Int32} {σf : St} (h : fX3_count N σ a1 = some (rf, σf)) : Cw l yX3_count cX3_count 4 (some .int) rmX3_count [.ref (ad 0), .int a1] (wM ad ca) (tyM ca) σ (some (.int rf)) σf := by
  refine Cw_of (by decide) (sameM ad ca) (Nat.le_of_ble_eq_true rfl) ?_
  intro p e s m args below meth c D A C X hr
  replace C : Cb p s m args meth c RX3 cX3_count 4 := C
  have h2 := h; clear h
  refine b_sub (lv' := [(0, .ref (ad 0)), (1, .int a1)]) [0, 1] rfl ?_
  refine b_iconst (v := (0 : Int32)) C dX3_count_0 (by decide) ?_
  refine b_istore_n (lv' := [(2, .int (0 : Int32)), (0, .ref (ad 0)), (1, .int a1)]) C dX3_count_1 rfl (by decide) rfl ?_
  refine b_iconst (v := (0 : Int32)) C dX3_count_2 (by decide) ?_
  refine b_istore_n (lv' := [(3, .int (0 : Int32)), (2, .int (0 : Int32)), (0, .ref (ad 0)), (1, .int a1)]) C dX3_count_3 rfl (by decide) rfl ?_
  refine b_sub [2, 3, 1, 0] rfl (wX3_count_4 C X hr (fun σ37 x35 x36 h38 => ?_) _ _ _ _ _ h2)
  refine b_iload_n C 1 dX3_count_43 rfl rfl ?_
  rcases Classical.em (x35 = (0 : Int32)) with c39 | c39
  · have h40 := ipos h38 c39; clear h38
    refine b_tswIn (off := 48) (tgt := 92) (kx := (0 : Int32)) C dX3_count_44 c39 (by decide) (by decide) (by decide) (by decide) ?_
    refine b_aload_n C 0 dX3_count_92 rfl rfl ?_
    refine gX3_50 C X dX3_count_93 ?_
    obtain ⟨rfl, rfl⟩ := so2 h40
    exact b_iret C dX3_count_96 hr
  have h41 := ineg h38 c39; clear h38
  rcases Classical.em (x35 = (1 : Int32)) with c42 | c42
  · have h43 := ipos h41 c42; clear h41
    refine b_tswIn (off := 53) (tgt := 97) (kx := (1 : Int32)) C dX3_count_44 c42 (by decide) (by decide) (by decide) (by decide) ?_
    refine b_aload_n C 0 dX3_count_97 rfl rfl ?_
    refine gX3_54 C X dX3_count_98 ?_
    obtain ⟨rfl, rfl⟩ := so2 h43
    exact b_iret C dX3_count_101 hr
  have h44 := ineg h41 c42; clear h41
  rcases Classical.em (x35 = (2 : Int32)) with c45 | c45
  · have h46 := ipos h44 c45; clear h44
    refine b_tswIn (off := 58) (tgt := 102) (kx := (2 : Int32)) C dX3_count_44 c45 (by decide) (by decide) (by decide) (by decide) ?_
    refine b_aload_n C 0 dX3_count_102 rfl rfl ?_
    refine gX3_57 C X dX3_count_103 ?_
    refine b_l2i C dX3_count_106 ?_
    obtain ⟨rfl, rfl⟩ := so2 h46
    exact b_iret C dX3_count_107 hr
  have h47 := ineg h44 c45; clear h44
  rcases Classical.em (x35 = (3 : Int32)) with c48 | c48
  · have h49 := ipos h47 c48; clear h47
    refine b_tswIn (off := 64) (tgt := 108) (kx := (3 : Int32)) C dX3_count_44 c48 (by decide) (by decide) (by decide) (by decide) ?_
    refine b_aload_n C 0 dX3_count_108 rfl rfl ?_
    refine gX3_64 C X dX3_count_109 ?_
    obtain ⟨rfl, rfl⟩ := so2 h49
    exact b_iret C dX3_count_112 hr
  have h50 := ineg h47 c48; clear h47
  rcases Classical.em (x35 = (4 : Int32)) with c51 | c51
  · have h52 := ipos h50 c51; clear h50
    refine b_tswIn (off := 69) (tgt := 113) (kx := (4 : Int32)) C dX3_count_44 c51 (by decide) (by decide) (by decide) (by decide) ?_
    refine b_aload_n C 0 dX3_count_113 rfl rfl ?_
    obtain ⟨r56, σ55, ec54, h54⟩ := bd2_inv h52; clear h52
    refine b_callWi (rest := []) C (sameM ad ca) X dX3_count_114 (ctX3_faulty ec54) mf_X3_faulty mi_X3_faulty kl_X3_147 0 rfl rfl rfl rfl ⟨rfl, rfl⟩ ⟨Nat.le_of_ble_eq_true rfl, Nat.le_of_ble_eq_true rfl⟩ ⟨Nat.zero_le _, Nat.zero_le _⟩ rfl (Nat.le_of_ble_eq_true rfl) ?_
    obtain ⟨rfl, rfl⟩ := so2 h54
    exact b_iret C dX3_count_117 hr
  have h53 := ineg h50 c51; clear h50
  rcases Classical.em (x35 = (5 : Int32)) with c57 | c57
  · have h58 := ipos h53 c57; clear h53
    refine b_tswIn (off := 74) (tgt := 118) (kx := (5 : Int32)) C dX3_count_44 c57 (by decide) (by decide) (by decide) (by decide) ?_
    refine b_aload_n C 0 dX3_count_118 rfl rfl ?_
    refine gX3_61 C X dX3_count_119 ?_
    obtain ⟨rfl, rfl⟩ := so2 h58
    exact b_iret C dX3_count_122 hr
  have h59 := ineg h53 c57; clear h53
  rcases Classical.em (x35 = (6 : Int32)) with c60 | c60
  · have h61 := ipos h59 c60; clear h59
    refine b_tswIn (off := 79) (tgt := 123) (kx := (6 : Int32)) C dX3_count_44 c60 (by decide) (by decide) (by decide) (by decide) ?_
    refine b_aload_n C 0 dX3_count_123 rfl rfl ?_
    obtain ⟨r65, σ64, ec63, h63⟩ := bd2_inv h61; clear h61
    refine b_callWi (rest := []) C (sameM ad ca) X dX3_count_124 (ctX3_links ec63) mf_X3_links mi_X3_links kl_X3_150 0 rfl rfl rfl rfl ⟨rfl, rfl⟩ ⟨Nat.le_of_ble_eq_true rfl, Nat.le_of_ble_eq_true rfl⟩ ⟨Nat.zero_le _, Nat.zero_le _⟩ rfl (Nat.le_of_ble_eq_true rfl) ?_
    obtain ⟨rfl, rfl⟩ := so2 h63
    exact b_iret C dX3_count_127 hr
  have h62 := ineg h59 c60; clear h59
  rcases Classical.em (x35 = (7 : Int32)) with c66 | c66
  · have h67 := ipos h62 c66; clear h62
    refine b_tswIn (off := 84) (tgt := 128) (kx := (7 : Int32)) C dX3_count_44 c66 (by decide) (by decide) (by decide) (by decide) ?_
    refine b_iload_n C 2 dX3_count_128 rfl rfl ?_
    obtain ⟨rfl, rfl⟩ := so2 h67
    exact b_iret C dX3_count_129 hr
  have h68 := ineg h62 c66; clear h62
  refine b_tswOut (tgt := 130) C dX3_count_44 (by have q0 := i32_ne c39 (z := 0) (by decide); have q1 := i32_ne c42 (z := 1) (by decide); have q2 := i32_ne c45 (z := 2) (by decide); have q3 := i32_ne c48 (z := 3) (by decide); have q4 := i32_ne c51 (z := 4) (by decide); have q5 := i32_ne c57 (z := 5) (by decide); have q6 := i32_ne c60 (z := 6) (by decide); have q7 := i32_ne c66 (z := 7) (by decide); omega) (by decide) ?_
  refine b_sipush (v := (-1002 : Int32)) C dX3_count_130 (by decide) ?_
  obtain ⟨rfl, rfl⟩ := so2 h68
  exact b_iret C dX3_count_133 hr
def rmX3_strategy : Room := { frames := 2, cells := 0, slots := 0, locals := 46 }
def fX3_strategy (σ : St) (a1 : Int32) : Option (Int32 × St) :=
  bd2 (fX3_noNode σ a1) fun r5 σ4 =>
  if r5 = (0 : Int32) then (
  if (a1 < 0 ∨ 10 ≤ (a1).toNatClampNeg) then none else
  some ((gF σ4 0 (a1).toNatClampNeg), σ4))
  else (
  some ((-1001 : Int32), σ4))
theorem ctX3_strategy {l : Launch} {ad : Nat → Nat} {ca : Nat → ClassId} {σ : St} {a1 : Int32} {rf : Int32} {σf : St} (h : fX3_strategy σ a1 = some (rf, σf)) : Cw l yX3_strategy cX3_strategy 2 (some .int) rmX3_strategy [.ref (ad 0), .int a1] (wM ad ca) (tyM ca) σ (some (.int rf)) σf := by
  refine Cw_of (by decide) (sameM ad ca) (Nat.le_of_ble_eq_true rfl) ?_
  intro p e s m args below meth c D A C X hr
  replace C : Cb p s m args meth c RX3 cX3_strategy 2 := C
  have h2 := h; clear h
  refine b_sub (lv' := [(0, .ref (ad 0)), (1, .int a1)]) [0, 1] rfl ?_
  refine b_aload_n C 0 dX3_strategy_0 rfl rfl ?_
  refine b_iload_n C 1 dX3_strategy_1 rfl rfl ?_
  obtain ⟨r5, σ4, ec3, h3⟩ := bd2_inv h2; clear h2
  refine b_callWi (rest := []) C (sameM ad ca) X dX3_strategy_2 (ctX3_noNode ec3) mf_X3_noNode mi_X3_noNode kl_X3_117 0 rfl rfl rfl rfl ⟨rfl, rfl⟩ ⟨Nat.le_of_ble_eq_true rfl, Nat.le_of_ble_eq_true rfl⟩ ⟨Nat.zero_le _, Nat.zero_le _⟩ rfl (Nat.le_of_ble_eq_true rfl) ?_
  refine b_if_eq (tgt := 14) C dX3_strategy_5 (by decide) (fun c6 => ?_) (fun c6 => ?_)
  · have h7 := ipos h3 c6; clear h3
    refine b_aload_n C 0 dX3_strategy_14 rfl rfl ?_
    refine gX3_13 C X dX3_strategy_15 ?_
    refine b_iload_n C 1 dX3_strategy_18 rfl rfl ?_
    obtain ⟨g10, h9⟩ := gdn h7; clear h7
    refine lM_2 C X g10 dX3_strategy_19 ?_
    obtain ⟨rfl, rfl⟩ := so2 h9
    exact b_iret C dX3_strategy_20 hr
  have h8 := ineg h3 c6; clear h3
  refine b_sipush (v := (-1001 : Int32)) C dX3_strategy_8 (by decide) ?_
  refine b_goto (tgt := 20) C dX3_strategy_11 (by decide) ?_
  obtain ⟨rfl, rfl⟩ := so2 h8
  exact b_iret C dX3_strategy_20 hr
def rmX3_outermost : Room := { frames := 1, cells := 0, slots := 0, locals := 23 }
def fX3_outermost_52 (N : Nat) (q8 : St → Int32 → Int32 → Int32 → Int64 → Int32 → Option (Int64 × St)) (σ34 : St) (x28 : Int32) (x29 : Int32) (x30 : Int32) (x31 : Int64) (x32 : Int32) (x33 : Int64) : Option (Int64 × St) :=
  if x30 = (0 : Int32) then (
  lt1 (x32 + (1 : Int32)) fun x39 =>
  q8 σ34 x28 x29 (1 : Int32) x33 x39)
  else (
  if x29 = (0 : Int32) then (
  if x31 ≤ x33 then (
  lt1 (x32 + (1 : Int32)) fun x54 =>
  q8 σ34 x28 x29 (1 : Int32) x31 x54)
  else (
  lt1 (x32 + (1 : Int32)) fun x56 =>
  q8 σ34 x28 x29 (1 : Int32) x33 x56))
  else (
  if x33 ≤ x31 then (
  lt1 (x32 + (1 : Int32)) fun x47 =>
  q8 σ34 x28 x29 (1 : Int32) x31 x47)
  else (
  lt1 (x32 + (1 : Int32)) fun x49 =>
  q8 σ34 x28 x29 (1 : Int32) x33 x49)))
def fX3_outermost_8b (N : Nat) (q110 : St → Int64 → Option (Int64 × St)) (q8 : St → Int32 → Int32 → Int32 → Int64 → Int32 → Option (Int64 × St)) (σ9 : St) (x4 : Int32) (x5 : Int32) (x6 : Int32) (x7 : Int64) (x8 : Int32) : Option (Int64 × St) :=
  if (gI σ9 0) ≤ x8 then (
  q110 σ9 x7)
  else (
  bd2 (fX3_isCorrect σ9 x8) fun r16 σ15 =>
  if r16 = (0 : Int32) then (
  lt1 (x8 + (1 : Int32)) fun x20 =>
  q8 σ15 x4 x5 x6 x7 x20)
  else (
  if (0 : Int32) ≤ x4 then (
  bd2 (fX3_end σ15 x8 x4 x5) fun r27 σ26 =>
  fX3_outermost_52 N q8 σ26 x4 x5 x6 x7 x8 r27)
  else (
  if ((((2 : Int32) * x8) + x5) < 0 ∨ 20 ≤ ((((2 : Int32) * x8) + x5)).toNatClampNeg) then none else
  fX3_outermost_52 N q8 σ15 x4 x5 x6 x7 x8 (gG σ15 0 ((((2 : Int32) * x8) + x5)).toNatClampNeg))))
def fX3_outermost_8 (N : Nat) (q110 : St → Int64 → Option (Int64 × St)) : Nat → St → Int32 → Int32 → Int32 → Int64 → Int32 → Option (Int64 × St)
  | 0, _, _, _, _, _, _ => none
  | n + 1, σ, x4, x5, x6, x7, x8 => fX3_outermost_8b N q110 (fX3_outermost_8 N q110 n) σ x4 x5 x6 x7 x8
def fX3_outermost (N : Nat) (σ : St) (a1 : Int32) (a2 : Int32) : Option (Int64 × St) :=
  fX3_outermost_8 N (fun σ61 x60 =>
 some (x60, σ61)) N σ a1 a2 (0 : Int32) (0 : Int64) (0 : Int32)
theorem wX3_outermost_52 {l : Launch} {p : Program} {e : Env} {s : State} {m : MethodId} {args : Array Value} {below : List Frame} {meth : Method} {c : Code} {D : va_G} {A : Nat → Prop} {ad : Nat → Nat} {ca : Nat → ClassId} {rf : Int64} {σf : St} (C : Cb p s m args meth c RX3 cX3_outermost 10) (X : Cx s D A (wM ad ca) (tyM ca)) (hr : meth.sig.returnType = (some .long)) {N : Nat} {q8 : St → Int32 → Int32 → Int32 → Int64 → Int32 → Option (Int64 × St)} (hq8 : ∀ (σ : St) (y0 : Int32) (y1 : Int32) (y2 : Int32) (y3 : Int64) (y4 : Int32), q8 σ y0 y1 y2 y3 y4 = some (rf, σf) → bW p l e rmX3_outermost s m args below meth c 0 0 (MQ below (Qw D (wM ad ca) σf (some (.long rf)) A) args s 0 0 A) 10 (wd D A (wM ad ca) s σ) 8 [(0, .ref (ad 0)), (1, .int y0), (2, .int y1), (3, .int y2), (4, .long y3), (6, .int y4)] []) : ∀ (σ : St) (y0 : Int32) (y1 : Int32) (y2 : Int32) (y3 : Int64) (y4 : Int32) (y5 : Int64), fX3_outermost_52 N q8 σ y0 y1 y2 y3 y4 y5 = some (rf, σf) → bW p l e rmX3_outermost s m args below meth c 0 0 (MQ below (Qw D (wM ad ca) σf (some (.long rf)) A) args s 0 0 A) 10 (wd D A (wM ad ca) s σ) 52 [(0, .ref (ad 0)), (1, .int y0), (2, .int y1), (3, .int y2), (4, .long y3), (6, .int y4)] [.long y5] := by
  intro σ34 x28 x29 x30 x31 x32 x33 h35
  refine b_lstore (lv' := [(7, .long x33), (0, .ref (ad 0)), (1, .int x28), (2, .int x29), (3, .int x30), (4, .long x31), (6, .int x32)]) C dX3_outermost_52 (by decide) rfl ?_
  refine b_iload_n C 4 dX3_outermost_54 rfl rfl ?_
  refine b_if_eq (tgt := 81) C dX3_outermost_55 (by decide) (fun c36 => ?_) (fun c36 => ?_)
  · have h37 := ipos h35 c36; clear h35
    refine b_iconst (v := (1 : Int32)) C dX3_outermost_81 (by decide) ?_
    refine b_goto (tgt := 86) C dX3_outermost_82 (by decide) ?_
    refine b_istore (lv' := [(9, .int (1 : Int32)), (7, .long x33), (0, .ref (ad 0)), (1, .int x28), (2, .int x29), (3, .int x30), (4, .long x31), (6, .int x32)]) C dX3_outermost_86 (by decide) rfl ?_
    refine b_iload C 0 dX3_outermost_88 rfl ?_
    refine b_if_eq (tgt := 98) C dX3_outermost_90 (by decide) (fun hc => absurd hc (by decide)) (fun _ => ?_)
    refine b_lload C 1 dX3_outermost_93 rfl ?_
    refine b_goto (tgt := 100) C dX3_outermost_95 (by decide) ?_
    refine b_lstore (lv' := [(4, .long x33), (9, .int (1 : Int32)), (7, .long x33), (0, .ref (ad 0)), (1, .int x28), (2, .int x29), (3, .int x30), (6, .int x32)]) C dX3_outermost_100 (by decide) rfl ?_
    refine b_iconst (v := (1 : Int32)) C dX3_outermost_102 (by decide) ?_
    refine b_istore_n (lv' := [(3, .int (1 : Int32)), (4, .long x33), (9, .int (1 : Int32)), (7, .long x33), (0, .ref (ad 0)), (1, .int x28), (2, .int x29), (6, .int x32)]) C dX3_outermost_103 rfl (by decide) rfl ?_
    obtain ⟨x39, ex39, h40⟩ := lt1_inv h37; clear h37
    refine b_iinc (v := x39) (lv' := [(6, .int x39), (3, .int (1 : Int32)), (4, .long x33), (9, .int (1 : Int32)), (7, .long x33), (0, .ref (ad 0)), (1, .int x28), (2, .int x29)]) C 7 dX3_outermost_104 rfl (by rw [ex39]; rfl) (by decide) rfl ?_
    refine b_goto (tgt := 8) C dX3_outermost_107 (by decide) ?_
    exact b_sub [5, 6, 7, 1, 2, 0] rfl (hq8 _ _ _ _ _ _ h40)
  have h38 := ineg h35 c36; clear h35
  refine b_iload_n C 3 dX3_outermost_58 rfl rfl ?_
  refine b_if_ne (tgt := 73) C dX3_outermost_59 (by decide) (fun c41 => ?_) (fun c41 => ?_)
  · have h42 := ineg h38 c41; clear h38
    refine b_lload C 0 dX3_outermost_73 rfl ?_
    refine b_lload C 5 dX3_outermost_75 rfl ?_
    refine b_lc_le (tgt := 85) C dX3_outermost_77 dX3_outermost_78 (by decide) (fun c44 => ?_) (fun c44 => ?_)
    · have h45 := ipos h42 c44; clear h42
      refine b_iconst (v := (0 : Int32)) C dX3_outermost_85 (by decide) ?_
      refine b_istore (lv' := [(9, .int (0 : Int32)), (7, .long x33), (0, .ref (ad 0)), (1, .int x28), (2, .int x29), (3, .int x30), (4, .long x31), (6, .int x32)]) C dX3_outermost_86 (by decide) rfl ?_
      refine b_iload C 0 dX3_outermost_88 rfl ?_
      refine b_if_eq (tgt := 98) C dX3_outermost_90 (by decide) (fun _ => ?_) (fun hc => absurd hc (by decide))
      refine b_lload C 6 dX3_outermost_98 rfl ?_
      refine b_lstore (lv' := [(4, .long x31), (9, .int (0 : Int32)), (7, .long x33), (0, .ref (ad 0)), (1, .int x28), (2, .int x29), (3, .int x30), (6, .int x32)]) C dX3_outermost_100 (by decide) rfl ?_
      refine b_iconst (v := (1 : Int32)) C dX3_outermost_102 (by decide) ?_
      refine b_istore_n (lv' := [(3, .int (1 : Int32)), (4, .long x31), (9, .int (0 : Int32)), (7, .long x33), (0, .ref (ad 0)), (1, .int x28), (2, .int x29), (6, .int x32)]) C dX3_outermost_103 rfl (by decide) rfl ?_
      obtain ⟨x47, ex47, h48⟩ := lt1_inv h45; clear h45
      refine b_iinc (v := x47) (lv' := [(6, .int x47), (3, .int (1 : Int32)), (4, .long x31), (9, .int (0 : Int32)), (7, .long x33), (0, .ref (ad 0)), (1, .int x28), (2, .int x29)]) C 7 dX3_outermost_104 rfl (by rw [ex47]; rfl) (by decide) rfl ?_
      refine b_goto (tgt := 8) C dX3_outermost_107 (by decide) ?_
      exact b_sub [5, 6, 7, 1, 2, 0] rfl (hq8 _ _ _ _ _ _ h48)
    have h46 := ineg h42 c44; clear h42
    refine b_iconst (v := (1 : Int32)) C dX3_outermost_81 (by decide) ?_
    refine b_goto (tgt := 86) C dX3_outermost_82 (by decide) ?_
    refine b_istore (lv' := [(9, .int (1 : Int32)), (7, .long x33), (0, .ref (ad 0)), (1, .int x28), (2, .int x29), (3, .int x30), (4, .long x31), (6, .int x32)]) C dX3_outermost_86 (by decide) rfl ?_
    refine b_iload C 0 dX3_outermost_88 rfl ?_
    refine b_if_eq (tgt := 98) C dX3_outermost_90 (by decide) (fun hc => absurd hc (by decide)) (fun _ => ?_)
    refine b_lload C 1 dX3_outermost_93 rfl ?_
    refine b_goto (tgt := 100) C dX3_outermost_95 (by decide) ?_
    refine b_lstore (lv' := [(4, .long x33), (9, .int (1 : Int32)), (7, .long x33), (0, .ref (ad 0)), (1, .int x28), (2, .int x29), (3, .int x30), (6, .int x32)]) C dX3_outermost_100 (by decide) rfl ?_
    refine b_iconst (v := (1 : Int32)) C dX3_outermost_102 (by decide) ?_
    refine b_istore_n (lv' := [(3, .int (1 : Int32)), (4, .long x33), (9, .int (1 : Int32)), (7, .long x33), (0, .ref (ad 0)), (1, .int x28), (2, .int x29), (6, .int x32)]) C dX3_outermost_103 rfl (by decide) rfl ?_
    obtain ⟨x49, ex49, h50⟩ := lt1_inv h46; clear h46
    refine b_iinc (v := x49) (lv' := [(6, .int x49), (3, .int (1 : Int32)), (4, .long x33), (9, .int (1 : Int32)), (7, .long x33), (0, .ref (ad 0)), (1, .int x28), (2, .int x29)]) C 7 dX3_outermost_104 rfl (by rw [ex49]; rfl) (by decide) rfl ?_
    refine b_goto (tgt := 8) C dX3_outermost_107 (by decide) ?_
    exact b_sub [5, 6, 7, 1, 2, 0] rfl (hq8 _ _ _ _ _ _ h50)
  have h43 := ipos h38 c41; clear h38
  refine b_lload C 0 dX3_outermost_62 rfl ?_
  refine b_lload C 5 dX3_outermost_64 rfl ?_
  refine b_lc_ge (tgt := 85) C dX3_outermost_66 dX3_outermost_67 (by decide) (fun c51 => ?_) (fun c51 => ?_)
  · have h52 := ipos h43 c51; clear h43
    refine b_iconst (v := (0 : Int32)) C dX3_outermost_85 (by decide) ?_
    refine b_istore (lv' := [(9, .int (0 : Int32)), (7, .long x33), (0, .ref (ad 0)), (1, .int x28), (2, .int x29), (3, .int x30), (4, .long x31), (6, .int x32)]) C dX3_outermost_86 (by decide) rfl ?_
    refine b_iload C 0 dX3_outermost_88 rfl ?_
    refine b_if_eq (tgt := 98) C dX3_outermost_90 (by decide) (fun _ => ?_) (fun hc => absurd hc (by decide))
    refine b_lload C 6 dX3_outermost_98 rfl ?_
    refine b_lstore (lv' := [(4, .long x31), (9, .int (0 : Int32)), (7, .long x33), (0, .ref (ad 0)), (1, .int x28), (2, .int x29), (3, .int x30), (6, .int x32)]) C dX3_outermost_100 (by decide) rfl ?_
    refine b_iconst (v := (1 : Int32)) C dX3_outermost_102 (by decide) ?_
    refine b_istore_n (lv' := [(3, .int (1 : Int32)), (4, .long x31), (9, .int (0 : Int32)), (7, .long x33), (0, .ref (ad 0)), (1, .int x28), (2, .int x29), (6, .int x32)]) C dX3_outermost_103 rfl (by decide) rfl ?_
    obtain ⟨x54, ex54, h55⟩ := lt1_inv h52; clear h52
    refine b_iinc (v := x54) (lv' := [(6, .int x54), (3, .int (1 : Int32)), (4, .long x31), (9, .int (0 : Int32)), (7, .long x33), (0, .ref (ad 0)), (1, .int x28), (2, .int x29)]) C 7 dX3_outermost_104 rfl (by rw [ex54]; rfl) (by decide) rfl ?_
    refine b_goto (tgt := 8) C dX3_outermost_107 (by decide) ?_
    exact b_sub [5, 6, 7, 1, 2, 0] rfl (hq8 _ _ _ _ _ _ h55)
  have h53 := ineg h43 c51; clear h43
  refine b_goto (tgt := 81) C dX3_outermost_70 (by decide) ?_
  refine b_iconst (v := (1 : Int32)) C dX3_outermost_81 (by decide) ?_
  refine b_goto (tgt := 86) C dX3_outermost_82 (by decide) ?_
  refine b_istore (lv' := [(9, .int (1 : Int32)), (7, .long x33), (0, .ref (ad 0)), (1, .int x28), (2, .int x29), (3, .int x30), (4, .long x31), (6, .int x32)]) C dX3_outermost_86 (by decide) rfl ?_
  refine b_iload C 0 dX3_outermost_88 rfl ?_
  refine b_if_eq (tgt := 98) C dX3_outermost_90 (by decide) (fun hc => absurd hc (by decide)) (fun _ => ?_)
  refine b_lload C 1 dX3_outermost_93 rfl ?_
  refine b_goto (tgt := 100) C dX3_outermost_95 (by decide) ?_
  refine b_lstore (lv' := [(4, .long x33), (9, .int (1 : Int32)), (7, .long x33), (0, .ref (ad 0)), (1, .int x28), (2, .int x29), (3, .int x30), (6, .int x32)]) C dX3_outermost_100 (by decide) rfl ?_
  refine b_iconst (v := (1 : Int32)) C dX3_outermost_102 (by decide) ?_
  refine b_istore_n (lv' := [(3, .int (1 : Int32)), (4, .long x33), (9, .int (1 : Int32)), (7, .long x33), (0, .ref (ad 0)), (1, .int x28), (2, .int x29), (6, .int x32)]) C dX3_outermost_103 rfl (by decide) rfl ?_
  obtain ⟨x56, ex56, h57⟩ := lt1_inv h53; clear h53
  refine b_iinc (v := x56) (lv' := [(6, .int x56), (3, .int (1 : Int32)), (4, .long x33), (9, .int (1 : Int32)), (7, .long x33), (0, .ref (ad 0)), (1, .int x28), (2, .int x29)]) C 7 dX3_outermost_104 rfl (by rw [ex56]; rfl) (by decide) rfl ?_
  refine b_goto (tgt := 8) C dX3_outermost_107 (by decide) ?_
  exact b_sub [5, 6, 7, 1, 2, 0] rfl (hq8 _ _ _ _ _ _ h57)
theorem wX3_outermost_8 {l : Launch} {p : Program} {e : Env} {s : State} {m : MethodId} {args : Array Value} {below : List Frame} {meth : Method} {c : Code} {D : va_G} {A : Nat → Prop} {ad : Nat → Nat} {ca : Nat → ClassId} {rf : Int64} {σf : St} (C : Cb p s m args meth c RX3 cX3_outermost 10) (X : Cx s D A (wM ad ca) (tyM ca)) (hr : meth.sig.returnType = (some .long)) {N : Nat} {q110 : St → Int64 → Option (Int64 × St)} (hq110 : ∀ (σ : St) (y0 : Int64), q110 σ y0 = some (rf, σf) → bW p l e rmX3_outermost s m args below meth c 0 0 (MQ below (Qw D (wM ad ca) σf (some (.long rf)) A) args s 0 0 A) 10 (wd D A (wM ad ca) s σ) 110 [(4, .long y0)] []) : ∀ n : Nat, ∀ (σ : St) (y0 : Int32) (y1 : Int32) (y2 : Int32) (y3 : Int64) (y4 : Int32), fX3_outermost_8 N q110 n σ y0 y1 y2 y3 y4 = some (rf, σf) → bW p l e rmX3_outermost s m args below meth c 0 0 (MQ below (Qw D (wM ad ca) σf (some (.long rf)) A) args s 0 0 A) 10 (wd D A (wM ad ca) s σ) 8 [(0, .ref (ad 0)), (1, .int y0), (2, .int y1), (3, .int y2), (4, .long y3), (6, .int y4)] [] := by
  intro n
  induction n with
  | zero => intro σ9 x4 x5 x6 x7 x8 h10; exact nn h10
  | succ n hq8 =>
    intro σ9 x4 x5 x6 x7 x8 h10
    replace h10 : fX3_outermost_8b N q110 (fX3_outermost_8 N q110 n) σ9 x4 x5 x6 x7 x8 = some (rf, σf) := h10
    refine b_iload C 5 dX3_outermost_8 rfl ?_
    refine b_aload_n C 0 dX3_outermost_10 rfl rfl ?_
    refine gX3_50 C X dX3_outermost_11 ?_
    refine b_icmp_ge (tgt := 110) C dX3_outermost_14 (by decide) (fun c11 => ?_) (fun c11 => ?_)
    · have h12 := ipos h10 c11; clear h10
      exact b_sub [4] rfl (hq110 _ _ h12)
    have h13 := ineg h10 c11; clear h10
    refine b_aload_n C 0 dX3_outermost_17 rfl rfl ?_
    refine b_iload C 5 dX3_outermost_18 rfl ?_
    obtain ⟨r16, σ15, ec14, h14⟩ := bd2_inv h13; clear h13
    refine b_callWi (rest := []) C (sameM ad ca) X dX3_outermost_20 (ctX3_isCorrect ec14) mf_X3_isCorrect mi_X3_isCorrect kl_X3_133 0 rfl rfl rfl rfl ⟨rfl, rfl⟩ ⟨Nat.le_of_ble_eq_true rfl, Nat.le_of_ble_eq_true rfl⟩ ⟨Nat.zero_le _, Nat.zero_le _⟩ rfl (Nat.le_of_ble_eq_true rfl) ?_
    refine b_if_eq (tgt := 104) C dX3_outermost_23 (by decide) (fun c17 => ?_) (fun c17 => ?_)
    · have h18 := ipos h14 c17; clear h14
      obtain ⟨x20, ex20, h21⟩ := lt1_inv h18; clear h18
      refine b_iinc (v := x20) (lv' := [(6, .int x20), (0, .ref (ad 0)), (1, .int x4), (2, .int x5), (3, .int x6), (4, .long x7)]) C 5 dX3_outermost_104 rfl (by rw [ex20]; rfl) (by decide) rfl ?_
      refine b_goto (tgt := 8) C dX3_outermost_107 (by decide) ?_
      exact b_sub [1, 2, 3, 4, 5, 0] rfl (hq8 _ _ _ _ _ _ h21)
    have h19 := ineg h14 c17; clear h14
    refine b_iload_n C 1 dX3_outermost_26 rfl rfl ?_
    refine b_if_ge (tgt := 44) C dX3_outermost_27 (by decide) (fun c22 => ?_) (fun c22 => ?_)
    · have h23 := ipos h19 c22; clear h19
      refine b_aload_n C 0 dX3_outermost_44 rfl rfl ?_
      refine b_iload C 5 dX3_outermost_45 rfl ?_
      refine b_iload_n C 1 dX3_outermost_47 rfl rfl ?_
      refine b_iload_n C 2 dX3_outermost_48 rfl rfl ?_
      obtain ⟨r27, σ26, ec25, h25⟩ := bd2_inv h23; clear h23
      refine b_callWl (rest := []) C (sameM ad ca) X dX3_outermost_49 (ctX3_end ec25) mf_X3_end mi_X3_end kl_X3_136 0 rfl rfl rfl rfl ⟨rfl, rfl⟩ ⟨Nat.le_of_ble_eq_true rfl, Nat.le_of_ble_eq_true rfl⟩ ⟨Nat.zero_le _, Nat.zero_le _⟩ rfl (Nat.le_of_ble_eq_true rfl) ?_
      exact b_sub [0, 1, 2, 3, 4, 5] rfl (wX3_outermost_52 C X hr hq8 _ _ _ _ _ _ _ h25)
    have h24 := ineg h19 c22; clear h19
    refine b_aload_n C 0 dX3_outermost_30 rfl rfl ?_
    refine gX3_7 C X dX3_outermost_31 ?_
    refine b_iconst (v := (2 : Int32)) C dX3_outermost_34 (by decide) ?_
    refine b_iload C 5 dX3_outermost_35 rfl ?_
    refine b_imul C dX3_outermost_37 ?_
    refine b_iload_n C 2 dX3_outermost_38 rfl rfl ?_
    refine b_iadd C dX3_outermost_39 ?_
    obtain ⟨g59, h58⟩ := gdn h24; clear h24
    refine lM_1 C X g59 dX3_outermost_40 ?_
    refine b_goto (tgt := 52) C dX3_outermost_41 (by decide) ?_
    exact b_sub [0, 1, 2, 3, 4, 5] rfl (wX3_outermost_52 C X hr hq8 _ _ _ _ _ _ _ h58)
theorem ctX3_outermost {l : Launch} {ad : Nat → Nat} {ca : Nat → ClassId} {N : Nat} {σ : St} {a1 : Int32} {a2 : Int32} {rf : Int64} {σf : St} (h : fX3_outermost N σ a1 a2 = some (rf, σf)) : Cw l yX3_outermost cX3_outermost 10 (some .long) rmX3_outermost [.ref (ad 0), .int a1, .int a2] (wM ad ca) (tyM ca) σ (some (.long rf)) σf := by
  refine Cw_of (by decide) (sameM ad ca) (Nat.le_of_ble_eq_true rfl) ?_
  intro p e s m args below meth c D A C X hr
  replace C : Cb p s m args meth c RX3 cX3_outermost 10 := C
  have h3 := h; clear h
  refine b_sub (lv' := [(0, .ref (ad 0)), (1, .int a1), (2, .int a2)]) [0, 1, 2] rfl ?_
  refine b_iconst (v := (0 : Int32)) C dX3_outermost_0 (by decide) ?_
  refine b_istore_n (lv' := [(3, .int (0 : Int32)), (0, .ref (ad 0)), (1, .int a1), (2, .int a2)]) C dX3_outermost_1 rfl (by decide) rfl ?_
  refine b_lconst (v := (0 : Int64)) C dX3_outermost_2 (by decide) ?_
  refine b_lstore (lv' := [(4, .long (0 : Int64)), (3, .int (0 : Int32)), (0, .ref (ad 0)), (1, .int a1), (2, .int a2)]) C dX3_outermost_3 (by decide) rfl ?_
  refine b_iconst (v := (0 : Int32)) C dX3_outermost_5 (by decide) ?_
  refine b_istore (lv' := [(6, .int (0 : Int32)), (4, .long (0 : Int64)), (3, .int (0 : Int32)), (0, .ref (ad 0)), (1, .int a1), (2, .int a2)]) C dX3_outermost_6 (by decide) rfl ?_
  refine b_sub [3, 4, 5, 2, 1, 0] rfl (wX3_outermost_8 C X hr (fun σ61 x60 h62 => ?_) _ _ _ _ _ _ _ h3)
  refine b_lload C 0 dX3_outermost_110 rfl ?_
  obtain ⟨rfl, rfl⟩ := so2 h62
  exact b_lret C dX3_outermost_112 hr
def rmX3_isSent : Room := { frames := 0, cells := 0, slots := 0, locals := 0 }
def fX3_isSent (σ : St) (a1 : Int32) (a2 : Int32) : Option (Int32 × St) :=
  if a1 = a2 then (
  some ((1 : Int32), σ))
  else (
  if ((((10 : Int32) * a1) + a2) < 0 ∨ 100 ≤ ((((10 : Int32) * a1) + a2)).toNatClampNeg) then none else
  if (gF σ 1 ((((10 : Int32) * a1) + a2)).toNatClampNeg) < (0 : Int32) then (
  some ((0 : Int32), σ))
  else (
  some ((1 : Int32), σ)))
theorem ctX3_isSent {l : Launch} {ad : Nat → Nat} {ca : Nat → ClassId} {σ : St} {a1 : Int32} {a2 : Int32} {rf : Int32} {σf : St} (h : fX3_isSent σ a1 a2 = some (rf, σf)) : Cw l yX3_isSent cX3_isSent 3 (some .boolean) rmX3_isSent [.ref (ad 0), .int a1, .int a2] (wM ad ca) (tyM ca) σ (some (.int rf)) σf := by
  refine Cw_of (by decide) (sameM ad ca) (Nat.le_of_ble_eq_true rfl) ?_
  intro p e s m args below meth c D A C X hr
  replace C : Cb p s m args meth c RX3 cX3_isSent 3 := C
  have h3 := h; clear h
  refine b_sub (lv' := [(0, .ref (ad 0)), (1, .int a1), (2, .int a2)]) [0, 1, 2] rfl ?_
  refine b_iload_n C 1 dX3_isSent_0 rfl rfl ?_
  refine b_iload_n C 2 dX3_isSent_1 rfl rfl ?_
  refine b_icmp_eq (tgt := 19) C dX3_isSent_2 (by decide) (fun c4 => ?_) (fun c4 => ?_)
  · have h5 := ipos h3 c4; clear h3
    refine b_iconst (v := (1 : Int32)) C dX3_isSent_19 (by decide) ?_
    refine b_goto (tgt := 24) C dX3_isSent_20 (by decide) ?_
    obtain ⟨rfl, rfl⟩ := so2 h5
    exact b_zret C dX3_isSent_24 hr rfl
  have h6 := ineg h3 c4; clear h3
  refine b_aload_n C 0 dX3_isSent_5 rfl rfl ?_
  refine gX3_26 C X dX3_isSent_6 ?_
  refine b_bipush (v := (10 : Int32)) C dX3_isSent_9 (by decide) ?_
  refine b_iload_n C 1 dX3_isSent_11 rfl rfl ?_
  refine b_imul C dX3_isSent_12 ?_
  refine b_iload_n C 2 dX3_isSent_13 rfl rfl ?_
  refine b_iadd C dX3_isSent_14 ?_
  obtain ⟨g8, h7⟩ := gdn h6; clear h6
  refine lM_6 C X g8 dX3_isSent_15 ?_
  refine b_if_lt (tgt := 23) C dX3_isSent_16 (by decide) (fun c9 => ?_) (fun c9 => ?_)
  · have h10 := ipos h7 c9; clear h7
    refine b_iconst (v := (0 : Int32)) C dX3_isSent_23 (by decide) ?_
    obtain ⟨rfl, rfl⟩ := so2 h10
    exact b_zret C dX3_isSent_24 hr rfl
  have h11 := ineg h7 c9; clear h7
  refine b_iconst (v := (1 : Int32)) C dX3_isSent_19 (by decide) ?_
  refine b_goto (tgt := 24) C dX3_isSent_20 (by decide) ?_
  obtain ⟨rfl, rfl⟩ := so2 h11
  exact b_zret C dX3_isSent_24 hr rfl
def rmX3_sent : Room := { frames := 2, cells := 0, slots := 0, locals := 52 }
def fX3_sent_232 (N : Nat) (σ38 : St) (x37 : Int64) : Option (Int64 × St) :=
  lt1 ((10000 : Int64) * (gJ σ38 0)) fun x40 =>
  if (-x40) ≤ x37 then (
  if x37 ≤ x40 then (
  some (x37, σ38))
  else (
  some (x40, σ38)))
  else (
  some ((-x40), σ38))
def fX3_sent_181 (N : Nat) (σ67 : St) (x66 : Int64) : Option (Int64 × St) :=
  fX3_sent_232 N σ67 x66
def fX3_sent_129 (N : Nat) (σ80 : St) (x79 : Int64) : Option (Int64 × St) :=
  fX3_sent_232 N σ80 x79
def fX3_sent (N : Nat) (σ : St) (a1 : Int32) (a2 : Int32) (a3 : Int32) : Option (Int64 × St) :=
  if a1 = a2 then (
  bd2 (fX3_end σ a2 (gI σ 3) a3) fun r95 σ94 =>
  some (r95, σ94))
  else (
  if ((((10 : Int32) * a1) + a2) < 0 ∨ 100 ≤ ((((10 : Int32) * a1) + a2)).toNatClampNeg) then none else
  lt1 (gF σ 1 ((((10 : Int32) * a1) + a2)).toNatClampNeg) fun x10 =>
  if (a1 < 0 ∨ 10 ≤ (a1).toNatClampNeg) then none else
  lt1 (gF σ 0 (a1).toNatClampNeg) fun x14 =>
  if x14 = (0 : Int32) then (
  if (gI σ 3) ≤ x10 then (
  bd2 (fX3_end σ a1 (0 : Int32) a3) fun r89 σ88 =>
  some (r89, σ88))
  else (
  bd2 (fX3_end σ a1 ((gI σ 3) - x10) a3) fun r92 σ91 =>
  some (r92, σ91)))
  else (
  if ((((2 : Int32) * a1) + a3) < 0 ∨ 20 ≤ ((((2 : Int32) * a1) + a3)).toNatClampNeg) then none else
  if (a1 < 0 ∨ 10 ≤ (a1).toNatClampNeg) then none else
  lt1 ((gG σ 0 ((((2 : Int32) * a1) + a3)).toNatClampNeg) + (((gI σ 3).toInt64) * (gG σ 1 (a1).toNatClampNeg))) fun x23 =>
  if x14 = (1 : Int32) then (
  if a3 = (0 : Int32) then (
  if ((((10 : Int32) * a1) + a2) < 0 ∨ 100 ≤ ((((10 : Int32) * a1) + a2)).toNatClampNeg) then none else
  fX3_sent_129 N σ (gG σ 2 ((((10 : Int32) * a1) + a2)).toNatClampNeg))
  else (
  if ((((10 : Int32) * a1) + a2) < 0 ∨ 100 ≤ ((((10 : Int32) * a1) + a2)).toNatClampNeg) then none else
  fX3_sent_129 N σ (gG σ 3 ((((10 : Int32) * a1) + a2)).toNatClampNeg)))
  else (
  if x14 = (2 : Int32) then (
  if (a2 - a2 / (2 : Int32) * (2 : Int32)) = (0 : Int32) then (
  bd2 (fX3_outermost N σ (gI σ 3) (0 : Int32)) fun r71 σ70 =>
  if (a1 < 0 ∨ 10 ≤ (a1).toNatClampNeg) then none else
  fX3_sent_181 N σ70 (r71 - (gG σ70 1 (a1).toNatClampNeg)))
  else (
  bd2 (fX3_outermost N σ (gI σ 3) (1 : Int32)) fun r63 σ62 =>
  if (a1 < 0 ∨ 10 ≤ (a1).toNatClampNeg) then none else
  fX3_sent_181 N σ62 (r63 + (gG σ62 1 (a1).toNatClampNeg))))
  else (
  if x14 = (3 : Int32) then (
  bd2 (fX3_end σ a2 (gI σ 3) a3) fun r53 σ52 =>
  if (a1 < 0 ∨ 10 ≤ (a1).toNatClampNeg) then none else
  lt1 (r53 + (gG σ52 1 (a1).toNatClampNeg)) fun x56 =>
  fX3_sent_232 N σ52 x56)
  else (
  if x14 = (4 : Int32) then (
  bd2 (fX3_end σ a2 (gI σ 3) a3) fun r50 σ49 =>
  fX3_sent_232 N σ49 r50)
  else (
  fX3_sent_232 N σ x23))))))
theorem wX3_sent_232 {l : Launch} {p : Program} {e : Env} {s : State} {m : MethodId} {args : Array Value} {below : List Frame} {meth : Method} {c : Code} {D : va_G} {A : Nat → Prop} {ad : Nat → Nat} {ca : Nat → ClassId} {rf : Int64} {σf : St} (C : Cb p s m args meth c RX3 cX3_sent 10) (X : Cx s D A (wM ad ca) (tyM ca)) (hr : meth.sig.returnType = (some .long)) {N : Nat} : ∀ (σ : St) (y0 : Int64), fX3_sent_232 N σ y0 = some (rf, σf) → bW p l e rmX3_sent s m args below meth c 0 0 (MQ below (Qw D (wM ad ca) σf (some (.long rf)) A) args s 0 0 A) 10 (wd D A (wM ad ca) s σ) 232 [(0, .ref (ad 0)), (6, .long y0)] [] := by
  intro σ38 x37 h39
  refine b_ldc2 (v := (10000 : Int64)) C dX3_sent_232 kc_X3_157 ?_
  refine b_aload_n C 0 dX3_sent_235 rfl rfl ?_
  refine gX3_57 C X dX3_sent_236 ?_
  refine b_lmul C dX3_sent_239 ?_
  obtain ⟨x40, ex40, h41⟩ := lt1_inv h39; clear h39
  refine b_nmJ ex40 ?_
  refine b_lstore (lv' := [(8, .long x40), (0, .ref (ad 0)), (6, .long x37)]) C dX3_sent_240 (by decide) rfl ?_
  refine b_lload C 2 dX3_sent_242 rfl ?_
  refine b_lload C 0 dX3_sent_244 rfl ?_
  refine b_lneg C dX3_sent_246 ?_
  refine b_lc_ge (tgt := 257) C dX3_sent_247 dX3_sent_248 (by decide) (fun c42 => ?_) (fun c42 => ?_)
  · have h43 := ipos h41 c42; clear h41
    refine b_lload C 2 dX3_sent_257 rfl ?_
    refine b_lload C 0 dX3_sent_259 rfl ?_
    refine b_lc_le (tgt := 270) C dX3_sent_261 dX3_sent_262 (by decide) (fun c45 => ?_) (fun c45 => ?_)
    · have h46 := ipos h43 c45; clear h43
      refine b_lload C 2 dX3_sent_270 rfl ?_
      obtain ⟨rfl, rfl⟩ := so2 h46
      exact b_lret C dX3_sent_272 hr
    have h47 := ineg h43 c45; clear h43
    refine b_lload C 0 dX3_sent_265 rfl ?_
    refine b_goto (tgt := 272) C dX3_sent_267 (by decide) ?_
    obtain ⟨rfl, rfl⟩ := so2 h47
    exact b_lret C dX3_sent_272 hr
  have h44 := ineg h41 c42; clear h41
  refine b_lload C 0 dX3_sent_251 rfl ?_
  refine b_lneg C dX3_sent_253 ?_
  refine b_goto (tgt := 272) C dX3_sent_254 (by decide) ?_
  obtain ⟨rfl, rfl⟩ := so2 h44
  exact b_lret C dX3_sent_272 hr
theorem wX3_sent_181 {l : Launch} {p : Program} {e : Env} {s : State} {m : MethodId} {args : Array Value} {below : List Frame} {meth : Method} {c : Code} {D : va_G} {A : Nat → Prop} {ad : Nat → Nat} {ca : Nat → ClassId} {rf : Int64} {σf : St} (C : Cb p s m args meth c RX3 cX3_sent 10) (X : Cx s D A (wM ad ca) (tyM ca)) (hr : meth.sig.returnType = (some .long)) {N : Nat} : ∀ (σ : St) (y0 : Int64), fX3_sent_181 N σ y0 = some (rf, σf) → bW p l e rmX3_sent s m args below meth c 0 0 (MQ below (Qw D (wM ad ca) σf (some (.long rf)) A) args s 0 0 A) 10 (wd D A (wM ad ca) s σ) 181 [(0, .ref (ad 0))] [.long y0] := by
  intro σ67 x66 h68
  refine b_lstore (lv' := [(6, .long x66), (0, .ref (ad 0))]) C dX3_sent_181 (by decide) rfl ?_
  refine b_goto (tgt := 232) C dX3_sent_183 (by decide) ?_
  exact b_sub [1, 0] rfl (wX3_sent_232 C X hr _ _ h68)
theorem wX3_sent_129 {l : Launch} {p : Program} {e : Env} {s : State} {m : MethodId} {args : Array Value} {below : List Frame} {meth : Method} {c : Code} {D : va_G} {A : Nat → Prop} {ad : Nat → Nat} {ca : Nat → ClassId} {rf : Int64} {σf : St} (C : Cb p s m args meth c RX3 cX3_sent 10) (X : Cx s D A (wM ad ca) (tyM ca)) (hr : meth.sig.returnType = (some .long)) {N : Nat} : ∀ (σ : St) (y0 : Int64), fX3_sent_129 N σ y0 = some (rf, σf) → bW p l e rmX3_sent s m args below meth c 0 0 (MQ below (Qw D (wM ad ca) σf (some (.long rf)) A) args s 0 0 A) 10 (wd D A (wM ad ca) s σ) 129 [(0, .ref (ad 0))] [.long y0] := by
  intro σ80 x79 h81
  refine b_lstore (lv' := [(6, .long x79), (0, .ref (ad 0))]) C dX3_sent_129 (by decide) rfl ?_
  refine b_goto (tgt := 232) C dX3_sent_131 (by decide) ?_
  exact b_sub [1, 0] rfl (wX3_sent_232 C X hr _ _ h81)
theorem ctX3_sent {l : Launch} {ad : Nat → Nat} {ca : Nat → ClassId} {N : Nat} {σ : St} {a1 : Int32} {a2 : Int32} {a3 : Int32} {rf : Int64} {σf : St} (h : fX3_sent N σ a1 a2 a3 = some (rf, σf)) : Cw l yX3_sent cX3_sent 10 (some .long) rmX3_sent [.ref (ad 0), .int a1, .int a2, .int a3] (wM ad ca) (tyM ca) σ (some (.long rf)) σf := by
  refine Cw_of (by decide) (sameM ad ca) (Nat.le_of_ble_eq_true rfl) ?_
  intro p e s m args below meth c D A C X hr
  replace C : Cb p s m args meth c RX3 cX3_sent 10 := C
  have h4 := h; clear h
  refine b_sub (lv' := [(0, .ref (ad 0)), (1, .int a1), (2, .int a2), (3, .int a3)]) [0, 1, 2, 3] rfl ?_
  refine b_iload_n C 1 dX3_sent_0 rfl rfl ?_
  refine b_iload_n C 2 dX3_sent_1 rfl rfl ?_
  refine b_icmp_ne (tgt := 16) C dX3_sent_2 (by decide) (fun c5 => ?_) (fun c5 => ?_)
  · have h6 := ineg h4 c5; clear h4
    refine b_aload_n C 0 dX3_sent_16 rfl rfl ?_
    refine gX3_26 C X dX3_sent_17 ?_
    refine b_bipush (v := (10 : Int32)) C dX3_sent_20 (by decide) ?_
    refine b_iload_n C 1 dX3_sent_22 rfl rfl ?_
    refine b_imul C dX3_sent_23 ?_
    refine b_iload_n C 2 dX3_sent_24 rfl rfl ?_
    refine b_iadd C dX3_sent_25 ?_
    obtain ⟨g9, h8⟩ := gdn h6; clear h6
    refine lM_6 C X g9 dX3_sent_26 ?_
    obtain ⟨x10, ex10, h11⟩ := lt1_inv h8; clear h8
    refine b_nmI ex10 ?_
    refine b_istore (lv' := [(4, .int x10), (0, .ref (ad 0)), (1, .int a1), (2, .int a2), (3, .int a3)]) C dX3_sent_27 (by decide) rfl ?_
    refine b_aload_n C 1 dX3_sent_29 rfl rfl ?_
    refine gX3_13 C X dX3_sent_30 ?_
    refine b_iload_n C 2 dX3_sent_33 rfl rfl ?_
    obtain ⟨g13, h12⟩ := gdn h11; clear h11
    refine lM_2 C X g13 dX3_sent_34 ?_
    obtain ⟨x14, ex14, h15⟩ := lt1_inv h12; clear h12
    refine b_nmI ex14 ?_
    refine b_istore (lv' := [(5, .int x14), (4, .int x10), (0, .ref (ad 0)), (1, .int a1), (2, .int a2), (3, .int a3)]) C dX3_sent_35 (by decide) rfl ?_
    refine b_iload C 0 dX3_sent_37 rfl ?_
    refine b_if_ne (tgt := 69) C dX3_sent_39 (by decide) (fun c16 => ?_) (fun c16 => ?_)
    · have h17 := ineg h15 c16; clear h15
      refine b_aload_n C 2 dX3_sent_69 rfl rfl ?_
      refine gX3_7 C X dX3_sent_70 ?_
      refine b_iconst (v := (2 : Int32)) C dX3_sent_73 (by decide) ?_
      refine b_iload_n C 3 dX3_sent_74 rfl rfl ?_
      refine b_imul C dX3_sent_75 ?_
      refine b_iload_n C 5 dX3_sent_76 rfl rfl ?_
      refine b_iadd C dX3_sent_77 ?_
      obtain ⟨g20, h19⟩ := gdn h17; clear h17
      refine lM_1 C X g20 dX3_sent_78 ?_
      refine b_aload_n C 2 dX3_sent_79 rfl rfl ?_
      refine gX3_64 C X dX3_sent_80 ?_
      refine b_i2l C dX3_sent_83 ?_
      refine b_aload_n C 2 dX3_sent_84 rfl rfl ?_
      refine gX3_17 C X dX3_sent_85 ?_
      refine b_iload_n C 3 dX3_sent_88 rfl rfl ?_
      obtain ⟨g22, h21⟩ := gdn h19; clear h19
      refine lM_3 C X g22 dX3_sent_89 ?_
      refine b_lmul C dX3_sent_90 ?_
      refine b_ladd C dX3_sent_91 ?_
      obtain ⟨x23, ex23, h24⟩ := lt1_inv h21; clear h21
      refine b_nmJ ex23 ?_
      refine b_lstore (lv' := [(6, .long x23), (5, .int x14), (4, .int x10), (0, .ref (ad 0)), (1, .int a1), (2, .int a2), (3, .int a3)]) C dX3_sent_92 (by decide) rfl ?_
      refine b_iload C 1 dX3_sent_94 rfl ?_
      refine b_iconst (v := (1 : Int32)) C dX3_sent_96 (by decide) ?_
      refine b_icmp_ne (tgt := 134) C dX3_sent_97 (by decide) (fun c25 => ?_) (fun c25 => ?_)
      · have h26 := ineg h24 c25; clear h24
        refine b_iload C 1 dX3_sent_134 rfl ?_
        refine b_iconst (v := (2 : Int32)) C dX3_sent_136 (by decide) ?_
        refine b_icmp_ne (tgt := 186) C dX3_sent_137 (by decide) (fun c28 => ?_) (fun c28 => ?_)
        · have h29 := ineg h26 c28; clear h26
          refine b_iload C 1 dX3_sent_186 rfl ?_
          refine b_iconst (v := (3 : Int32)) C dX3_sent_188 (by decide) ?_
          refine b_icmp_ne (tgt := 214) C dX3_sent_189 (by decide) (fun c31 => ?_) (fun c31 => ?_)
          · have h32 := ineg h29 c31; clear h29
            refine b_iload C 1 dX3_sent_214 rfl ?_
            refine b_iconst (v := (4 : Int32)) C dX3_sent_216 (by decide) ?_
            refine b_icmp_ne (tgt := 232) C dX3_sent_217 (by decide) (fun c34 => ?_) (fun c34 => ?_)
            · have h35 := ineg h32 c34; clear h32
              exact b_sub [3, 0] rfl (wX3_sent_232 C X hr _ _ h35)
            have h36 := ipos h32 c34; clear h32
            refine b_aload_n C 3 dX3_sent_220 rfl rfl ?_
            refine b_iload_n C 5 dX3_sent_221 rfl rfl ?_
            refine b_aload_n C 3 dX3_sent_222 rfl rfl ?_
            refine gX3_64 C X dX3_sent_223 ?_
            refine b_iload_n C 6 dX3_sent_226 rfl rfl ?_
            obtain ⟨r50, σ49, ec48, h48⟩ := bd2_inv h36; clear h36
            refine b_callWl (rest := []) C (sameM ad ca) X dX3_sent_227 (ctX3_end ec48) mf_X3_end mi_X3_end kl_X3_136 0 rfl rfl rfl rfl ⟨rfl, rfl⟩ ⟨Nat.le_of_ble_eq_true rfl, Nat.le_of_ble_eq_true rfl⟩ ⟨Nat.zero_le _, Nat.zero_le _⟩ rfl (Nat.le_of_ble_eq_true rfl) ?_
            refine b_lstore (lv' := [(6, .long r50), (5, .int x14), (4, .int x10), (0, .ref (ad 0)), (1, .int a1), (2, .int a2), (3, .int a3)]) C dX3_sent_230 (by decide) rfl ?_
            exact b_sub [3, 0] rfl (wX3_sent_232 C X hr _ _ h48)
          have h33 := ipos h29 c31; clear h29
          refine b_aload_n C 3 dX3_sent_192 rfl rfl ?_
          refine b_iload_n C 5 dX3_sent_193 rfl rfl ?_
          refine b_aload_n C 3 dX3_sent_194 rfl rfl ?_
          refine gX3_64 C X dX3_sent_195 ?_
          refine b_iload_n C 6 dX3_sent_198 rfl rfl ?_
          obtain ⟨r53, σ52, ec51, h51⟩ := bd2_inv h33; clear h33
          refine b_callWl (rest := []) C (sameM ad ca) X dX3_sent_199 (ctX3_end ec51) mf_X3_end mi_X3_end kl_X3_136 0 rfl rfl rfl rfl ⟨rfl, rfl⟩ ⟨Nat.le_of_ble_eq_true rfl, Nat.le_of_ble_eq_true rfl⟩ ⟨Nat.zero_le _, Nat.zero_le _⟩ rfl (Nat.le_of_ble_eq_true rfl) ?_
          refine b_aload_n C 3 dX3_sent_202 rfl rfl ?_
          refine gX3_17 C X dX3_sent_203 ?_
          refine b_iload_n C 4 dX3_sent_206 rfl rfl ?_
          obtain ⟨g55, h54⟩ := gdn h51; clear h51
          refine lM_3 C X g55 dX3_sent_207 ?_
          refine b_ladd C dX3_sent_208 ?_
          obtain ⟨x56, ex56, h57⟩ := lt1_inv h54; clear h54
          refine b_nmJ ex56 ?_
          refine b_lstore (lv' := [(6, .long x56), (5, .int x14), (4, .int x10), (0, .ref (ad 0)), (1, .int a1), (2, .int a2), (3, .int a3)]) C dX3_sent_209 (by decide) rfl ?_
          refine b_goto (tgt := 232) C dX3_sent_211 (by decide) ?_
          exact b_sub [3, 0] rfl (wX3_sent_232 C X hr _ _ h57)
        have h30 := ipos h26 c28; clear h26
        refine b_iload_n C 5 dX3_sent_140 rfl rfl ?_
        refine b_iconst (v := (2 : Int32)) C dX3_sent_141 (by decide) ?_
        refine b_irem C dX3_sent_142 (by decide) ?_
        refine b_if_ne (tgt := 165) C dX3_sent_143 (by decide) (fun c58 => ?_) (fun c58 => ?_)
        · have h59 := ineg h30 c58; clear h30
          refine b_aload_n C 3 dX3_sent_165 rfl rfl ?_
          refine b_aload_n C 3 dX3_sent_166 rfl rfl ?_
          refine gX3_64 C X dX3_sent_167 ?_
          refine b_iconst (v := (1 : Int32)) C dX3_sent_170 (by decide) ?_
          obtain ⟨r63, σ62, ec61, h61⟩ := bd2_inv h59; clear h59
          refine b_callWl (rest := []) C (sameM ad ca) X dX3_sent_171 (ctX3_outermost ec61) mf_X3_outermost mi_X3_outermost kl_X3_153 0 rfl rfl rfl rfl ⟨rfl, rfl⟩ ⟨Nat.le_of_ble_eq_true rfl, Nat.le_of_ble_eq_true rfl⟩ ⟨Nat.zero_le _, Nat.zero_le _⟩ rfl (Nat.le_of_ble_eq_true rfl) ?_
          refine b_aload_n C 3 dX3_sent_174 rfl rfl ?_
          refine gX3_17 C X dX3_sent_175 ?_
          refine b_iload_n C 4 dX3_sent_178 rfl rfl ?_
          obtain ⟨g65, h64⟩ := gdn h61; clear h61
          refine lM_3 C X g65 dX3_sent_179 ?_
          refine b_ladd C dX3_sent_180 ?_
          exact b_sub [3] rfl (wX3_sent_181 C X hr _ _ h64)
        have h60 := ipos h30 c58; clear h30
        refine b_aload_n C 3 dX3_sent_146 rfl rfl ?_
        refine b_aload_n C 3 dX3_sent_147 rfl rfl ?_
        refine gX3_64 C X dX3_sent_148 ?_
        refine b_iconst (v := (0 : Int32)) C dX3_sent_151 (by decide) ?_
        obtain ⟨r71, σ70, ec69, h69⟩ := bd2_inv h60; clear h60
        refine b_callWl (rest := []) C (sameM ad ca) X dX3_sent_152 (ctX3_outermost ec69) mf_X3_outermost mi_X3_outermost kl_X3_153 0 rfl rfl rfl rfl ⟨rfl, rfl⟩ ⟨Nat.le_of_ble_eq_true rfl, Nat.le_of_ble_eq_true rfl⟩ ⟨Nat.zero_le _, Nat.zero_le _⟩ rfl (Nat.le_of_ble_eq_true rfl) ?_
        refine b_aload_n C 3 dX3_sent_155 rfl rfl ?_
        refine gX3_17 C X dX3_sent_156 ?_
        refine b_iload_n C 4 dX3_sent_159 rfl rfl ?_
        obtain ⟨g73, h72⟩ := gdn h69; clear h69
        refine lM_3 C X g73 dX3_sent_160 ?_
        refine b_lsub C dX3_sent_161 ?_
        refine b_goto (tgt := 181) C dX3_sent_162 (by decide) ?_
        exact b_sub [3] rfl (wX3_sent_181 C X hr _ _ h72)
      have h27 := ipos h24 c25; clear h24
      refine b_iload_n C 6 dX3_sent_100 rfl rfl ?_
      refine b_if_ne (tgt := 118) C dX3_sent_101 (by decide) (fun c74 => ?_) (fun c74 => ?_)
      · have h75 := ineg h27 c74; clear h27
        refine b_aload_n C 3 dX3_sent_118 rfl rfl ?_
        refine gX3_23 C X dX3_sent_119 ?_
        refine b_bipush (v := (10 : Int32)) C dX3_sent_122 (by decide) ?_
        refine b_iload_n C 4 dX3_sent_124 rfl rfl ?_
        refine b_imul C dX3_sent_125 ?_
        refine b_iload_n C 5 dX3_sent_126 rfl rfl ?_
        refine b_iadd C dX3_sent_127 ?_
        obtain ⟨g78, h77⟩ := gdn h75; clear h75
        refine lM_5 C X g78 dX3_sent_128 ?_
        exact b_sub [3] rfl (wX3_sent_129 C X hr _ _ h77)
      have h76 := ipos h27 c74; clear h27
      refine b_aload_n C 3 dX3_sent_104 rfl rfl ?_
      refine gX3_20 C X dX3_sent_105 ?_
      refine b_bipush (v := (10 : Int32)) C dX3_sent_108 (by decide) ?_
      refine b_iload_n C 4 dX3_sent_110 rfl rfl ?_
      refine b_imul C dX3_sent_111 ?_
      refine b_iload_n C 5 dX3_sent_112 rfl rfl ?_
      refine b_iadd C dX3_sent_113 ?_
      obtain ⟨g83, h82⟩ := gdn h76; clear h76
      refine lM_4 C X g83 dX3_sent_114 ?_
      refine b_goto (tgt := 129) C dX3_sent_115 (by decide) ?_
      exact b_sub [3] rfl (wX3_sent_129 C X hr _ _ h82)
    have h18 := ipos h15 c16; clear h15
    refine b_aload_n C 2 dX3_sent_42 rfl rfl ?_
    refine b_iload_n C 3 dX3_sent_43 rfl rfl ?_
    refine b_aload_n C 2 dX3_sent_44 rfl rfl ?_
    refine gX3_64 C X dX3_sent_45 ?_
    refine b_iload C 1 dX3_sent_48 rfl ?_
    refine b_icmp_le (tgt := 63) C dX3_sent_50 (by decide) (fun c84 => ?_) (fun c84 => ?_)
    · have h85 := ipos h18 c84; clear h18
      refine b_iconst (v := (0 : Int32)) C dX3_sent_63 (by decide) ?_
      refine b_iload_n C 5 dX3_sent_64 rfl rfl ?_
      obtain ⟨r89, σ88, ec87, h87⟩ := bd2_inv h85; clear h85
      refine b_callWl (rest := []) C (sameM ad ca) X dX3_sent_65 (ctX3_end ec87) mf_X3_end mi_X3_end kl_X3_136 0 rfl rfl rfl rfl ⟨rfl, rfl⟩ ⟨Nat.le_of_ble_eq_true rfl, Nat.le_of_ble_eq_true rfl⟩ ⟨Nat.zero_le _, Nat.zero_le _⟩ rfl (Nat.le_of_ble_eq_true rfl) ?_
      obtain ⟨rfl, rfl⟩ := so2 h87
      exact b_lret C dX3_sent_68 hr
    have h86 := ineg h18 c84; clear h18
    refine b_aload_n C 2 dX3_sent_53 rfl rfl ?_
    refine gX3_64 C X dX3_sent_54 ?_
    refine b_iload C 1 dX3_sent_57 rfl ?_
    refine b_isub C dX3_sent_59 ?_
    refine b_goto (tgt := 64) C dX3_sent_60 (by decide) ?_
    refine b_iload_n C 5 dX3_sent_64 rfl rfl ?_
    obtain ⟨r92, σ91, ec90, h90⟩ := bd2_inv h86; clear h86
    refine b_callWl (rest := []) C (sameM ad ca) X dX3_sent_65 (ctX3_end ec90) mf_X3_end mi_X3_end kl_X3_136 0 rfl rfl rfl rfl ⟨rfl, rfl⟩ ⟨Nat.le_of_ble_eq_true rfl, Nat.le_of_ble_eq_true rfl⟩ ⟨Nat.zero_le _, Nat.zero_le _⟩ rfl (Nat.le_of_ble_eq_true rfl) ?_
    obtain ⟨rfl, rfl⟩ := so2 h90
    exact b_lret C dX3_sent_68 hr
  have h7 := ipos h4 c5; clear h4
  refine b_aload_n C 0 dX3_sent_5 rfl rfl ?_
  refine b_iload_n C 2 dX3_sent_6 rfl rfl ?_
  refine b_aload_n C 0 dX3_sent_7 rfl rfl ?_
  refine gX3_64 C X dX3_sent_8 ?_
  refine b_iload_n C 3 dX3_sent_11 rfl rfl ?_
  obtain ⟨r95, σ94, ec93, h93⟩ := bd2_inv h7; clear h7
  refine b_callWl (rest := []) C (sameM ad ca) X dX3_sent_12 (ctX3_end ec93) mf_X3_end mi_X3_end kl_X3_136 0 rfl rfl rfl rfl ⟨rfl, rfl⟩ ⟨Nat.le_of_ble_eq_true rfl, Nat.le_of_ble_eq_true rfl⟩ ⟨Nat.zero_le _, Nat.zero_le _⟩ rfl (Nat.le_of_ble_eq_true rfl) ?_
  obtain ⟨rfl, rfl⟩ := so2 h93
  exact b_lret C dX3_sent_15 hr
