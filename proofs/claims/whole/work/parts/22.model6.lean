def rmX3_hull : Room := { frames := 2, cells := 0, slots := 0, locals := 55 }
def fX3_hull (N : Nat) (σ : St) (a1 : Int32) (a2 : Int32) : Option (Int64 × St) :=
  bd2 (fX3_faulty N σ) fun r6 σ5 =>
  if r6 = (gI σ5 0) then (
  bd0 (fX3_lost) fun r24 =>
  some (r24, σ5))
  else (
  if a1 = (0 : Int32) then (
  bd2 (fX3_outermost N σ5 (-1 : Int32) (0 : Int32)) fun r15 σ14 =>
  bd0 (fX3_part N r15 (gJ σ14 0) a2) fun r17 =>
  some (r17, σ14))
  else (
  bd2 (fX3_outermost N σ5 (-1 : Int32) (1 : Int32)) fun r20 σ19 =>
  bd0 (fX3_part N r20 (gJ σ19 0) a2) fun r22 =>
  some (r22, σ19)))
theorem ctX3_hull {l : Launch} {ad : Nat → Nat} {ca : Nat → ClassId} {N : Nat} {σ : St} {a1 : Int32} {a2 : Int32} {rf : Int64} {σf : St} (h : fX3_hull N σ a1 a2 = some (rf, σf)) : Cw l yX3_hull cX3_hull 3 (some .long) rmX3_hull [.ref (ad 0), .int a1, .int a2] (wM ad ca) (tyM ca) σ (some (.long rf)) σf := by
  refine Cw_of (by decide) (sameM ad ca) (Nat.le_of_ble_eq_true rfl) ?_
  intro p e s m args below meth c D A C X hr
  replace C : Cb p s m args meth c RX3 cX3_hull 3 := C
  have h3 := h; clear h
  refine b_sub (lv' := [(0, .ref (ad 0)), (1, .int a1), (2, .int a2)]) [0, 1, 2] rfl ?_
  refine b_aload_n C 0 dX3_hull_0 rfl rfl ?_
  obtain ⟨r6, σ5, ec4, h4⟩ := bd2_inv h3; clear h3
  refine b_callWi (rest := []) C (sameM ad ca) X dX3_hull_1 (ctX3_faulty ec4) mf_X3_faulty mi_X3_faulty kl_X3_147 0 rfl rfl rfl rfl ⟨rfl, rfl⟩ ⟨Nat.le_of_ble_eq_true rfl, Nat.le_of_ble_eq_true rfl⟩ ⟨Nat.zero_le _, Nat.zero_le _⟩ rfl (Nat.le_of_ble_eq_true rfl) ?_
  refine b_aload_n C 0 dX3_hull_4 rfl rfl ?_
  refine gX3_50 C X dX3_hull_5 ?_
  refine b_icmp_ne (tgt := 17) C dX3_hull_8 (by decide) (fun c7 => ?_) (fun c7 => ?_)
  · have h8 := ineg h4 c7; clear h4
    refine b_aload_n C 0 dX3_hull_17 rfl rfl ?_
    refine b_iconst (v := (-1 : Int32)) C dX3_hull_18 (by decide) ?_
    refine b_iload_n C 1 dX3_hull_19 rfl rfl ?_
    refine b_if_eq (tgt := 27) C dX3_hull_20 (by decide) (fun c10 => ?_) (fun c10 => ?_)
    · have h11 := ipos h8 c10; clear h8
      refine b_iconst (v := (0 : Int32)) C dX3_hull_27 (by decide) ?_
      obtain ⟨r15, σ14, ec13, h13⟩ := bd2_inv h11; clear h11
      refine b_callWl (rest := []) C (sameM ad ca) X dX3_hull_28 (ctX3_outermost ec13) mf_X3_outermost mi_X3_outermost kl_X3_153 0 rfl rfl rfl rfl ⟨rfl, rfl⟩ ⟨Nat.le_of_ble_eq_true rfl, Nat.le_of_ble_eq_true rfl⟩ ⟨Nat.zero_le _, Nat.zero_le _⟩ rfl (Nat.le_of_ble_eq_true rfl) ?_
      refine b_aload_n C 0 dX3_hull_31 rfl rfl ?_
      refine gX3_57 C X dX3_hull_32 ?_
      refine b_iload_n C 2 dX3_hull_35 rfl rfl ?_
      obtain ⟨r17, ec16, h16⟩ := bd0_inv h13; clear h13
      refine b_callSl (rest := []) C dX3_hull_36 (ctX3_part ec16) mf_X3_part ms_X3_part kl_X3_198 rfl ⟨rfl, rfl⟩ ⟨Nat.le_of_ble_eq_true rfl, Nat.le_of_ble_eq_true rfl⟩ ⟨Nat.zero_le _, Nat.zero_le _⟩ rfl (Nat.le_of_ble_eq_true rfl) ?_
      obtain ⟨rfl, rfl⟩ := so2 h16
      exact b_lret C dX3_hull_39 hr
    have h12 := ineg h8 c10; clear h8
    refine b_iconst (v := (1 : Int32)) C dX3_hull_23 (by decide) ?_
    refine b_goto (tgt := 28) C dX3_hull_24 (by decide) ?_
    obtain ⟨r20, σ19, ec18, h18⟩ := bd2_inv h12; clear h12
    refine b_callWl (rest := []) C (sameM ad ca) X dX3_hull_28 (ctX3_outermost ec18) mf_X3_outermost mi_X3_outermost kl_X3_153 0 rfl rfl rfl rfl ⟨rfl, rfl⟩ ⟨Nat.le_of_ble_eq_true rfl, Nat.le_of_ble_eq_true rfl⟩ ⟨Nat.zero_le _, Nat.zero_le _⟩ rfl (Nat.le_of_ble_eq_true rfl) ?_
    refine b_aload_n C 0 dX3_hull_31 rfl rfl ?_
    refine gX3_57 C X dX3_hull_32 ?_
    refine b_iload_n C 2 dX3_hull_35 rfl rfl ?_
    obtain ⟨r22, ec21, h21⟩ := bd0_inv h18; clear h18
    refine b_callSl (rest := []) C dX3_hull_36 (ctX3_part ec21) mf_X3_part ms_X3_part kl_X3_198 rfl ⟨rfl, rfl⟩ ⟨Nat.le_of_ble_eq_true rfl, Nat.le_of_ble_eq_true rfl⟩ ⟨Nat.zero_le _, Nat.zero_le _⟩ rfl (Nat.le_of_ble_eq_true rfl) ?_
    obtain ⟨rfl, rfl⟩ := so2 h21
    exact b_lret C dX3_hull_39 hr
  have h9 := ipos h4 c7; clear h4
  obtain ⟨r24, ec23, h23⟩ := bd0_inv h9; clear h9
  refine b_callSl (rest := []) C dX3_hull_11 (ctX3_lost ec23) mf_X3_lost ms_X3_lost kl_X3_195 rfl ⟨rfl, rfl⟩ ⟨Nat.le_of_ble_eq_true rfl, Nat.le_of_ble_eq_true rfl⟩ ⟨Nat.zero_le _, Nat.zero_le _⟩ rfl (Nat.le_of_ble_eq_true rfl) ?_
  refine b_goto (tgt := 39) C dX3_hull_14 (by decide) ?_
  obtain ⟨rfl, rfl⟩ := so2 h23
  exact b_lret C dX3_hull_39 hr
def rmX3_outside : Room := { frames := 2, cells := 0, slots := 0, locals := 52 }
def fX3_outside_20b (N : Nat) (q88 : St → Int32 → Option (Int32 × St)) (q20 : St → Int32 → Int64 → Int64 → Int32 → Option (Int32 × St)) (σ12 : St) (x8 : Int32) (x9 : Int64) (x10 : Int64) (x11 : Int32) : Option (Int32 × St) :=
  if (gI σ12 0) ≤ x11 then (
  q88 σ12 x8)
  else (
  bd2 (fX3_isCorrect σ12 x11) fun r19 σ18 =>
  if r19 = (0 : Int32) then (
  lt1 (x8 ||| (0 : Int32)) fun x23 =>
  lt1 (x11 + (1 : Int32)) fun x25 =>
  q20 σ18 x23 x9 x10 x25)
  else (
  bd2 (fX3_end σ18 x11 (gI σ18 3) (0 : Int32)) fun r29 σ28 =>
  if r29 < x9 then (
  lt1 (x8 ||| ((1 : Int32) <<< (x11 &&& 31))) fun x33 =>
  lt1 (x11 + (1 : Int32)) fun x35 =>
  q20 σ28 x33 x9 x10 x35)
  else (
  bd2 (fX3_end σ28 x11 (gI σ28 3) (1 : Int32)) fun r39 σ38 =>
  if r39 ≤ x10 then (
  lt1 (x8 ||| (0 : Int32)) fun x43 =>
  lt1 (x11 + (1 : Int32)) fun x45 =>
  q20 σ38 x43 x9 x10 x45)
  else (
  lt1 (x8 ||| ((1 : Int32) <<< (x11 &&& 31))) fun x47 =>
  lt1 (x11 + (1 : Int32)) fun x49 =>
  q20 σ38 x47 x9 x10 x49))))
def fX3_outside_20 (N : Nat) (q88 : St → Int32 → Option (Int32 × St)) : Nat → St → Int32 → Int64 → Int64 → Int32 → Option (Int32 × St)
  | 0, _, _, _, _, _ => none
  | n + 1, σ, x8, x9, x10, x11 => fX3_outside_20b N q88 (fX3_outside_20 N q88 n) σ x8 x9 x10 x11
def fX3_outside (N : Nat) (σ : St) : Option (Int32 × St) :=
  bd2 (fX3_outermost N σ (-1 : Int32) (0 : Int32)) fun r4 σ3 =>
  bd2 (fX3_outermost N σ3 (-1 : Int32) (1 : Int32)) fun r7 σ6 =>
  fX3_outside_20 N (fun σ52 x51 =>
 some (x51, σ52)) N σ6 (0 : Int32) r4 r7 (0 : Int32)
theorem wX3_outside_20 {l : Launch} {p : Program} {e : Env} {s : State} {m : MethodId} {args : Array Value} {below : List Frame} {meth : Method} {c : Code} {D : va_G} {A : Nat → Prop} {ad : Nat → Nat} {ca : Nat → ClassId} {rf : Int32} {σf : St} (C : Cb p s m args meth c RX3 cX3_outside 7) (X : Cx s D A (wM ad ca) (tyM ca)) (hr : meth.sig.returnType = (some .int)) {N : Nat} {q88 : St → Int32 → Option (Int32 × St)} (hq88 : ∀ (σ : St) (y0 : Int32), q88 σ y0 = some (rf, σf) → bW p l e rmX3_outside s m args below meth c 0 0 (MQ below (Qw D (wM ad ca) σf (some (.int rf)) A) args s 0 0 A) 7 (wd D A (wM ad ca) s σ) 88 [(1, .int y0)] []) : ∀ n : Nat, ∀ (σ : St) (y0 : Int32) (y1 : Int64) (y2 : Int64) (y3 : Int32), fX3_outside_20 N q88 n σ y0 y1 y2 y3 = some (rf, σf) → bW p l e rmX3_outside s m args below meth c 0 0 (MQ below (Qw D (wM ad ca) σf (some (.int rf)) A) args s 0 0 A) 7 (wd D A (wM ad ca) s σ) 20 [(0, .ref (ad 0)), (1, .int y0), (2, .long y1), (4, .long y2), (6, .int y3)] [] := by
  intro n
  induction n with
  | zero => intro σ12 x8 x9 x10 x11 h13; exact nn h13
  | succ n hq20 =>
    intro σ12 x8 x9 x10 x11 h13
    replace h13 : fX3_outside_20b N q88 (fX3_outside_20 N q88 n) σ12 x8 x9 x10 x11 = some (rf, σf) := h13
    refine b_iload C 4 dX3_outside_20 rfl ?_
    refine b_aload_n C 0 dX3_outside_22 rfl rfl ?_
    refine gX3_50 C X dX3_outside_23 ?_
    refine b_icmp_ge (tgt := 88) C dX3_outside_26 (by decide) (fun c14 => ?_) (fun c14 => ?_)
    · have h15 := ipos h13 c14; clear h13
      exact b_sub [1] rfl (hq88 _ _ h15)
    have h16 := ineg h13 c14; clear h13
    refine b_iload_n C 1 dX3_outside_29 rfl rfl ?_
    refine b_aload_n C 0 dX3_outside_30 rfl rfl ?_
    refine b_iload C 4 dX3_outside_31 rfl ?_
    obtain ⟨r19, σ18, ec17, h17⟩ := bd2_inv h16; clear h16
    refine b_callWi (rest := [.int x8]) C (sameM ad ca) X dX3_outside_33 (ctX3_isCorrect ec17) mf_X3_isCorrect mi_X3_isCorrect kl_X3_133 0 rfl rfl rfl rfl ⟨rfl, rfl⟩ ⟨Nat.le_of_ble_eq_true rfl, Nat.le_of_ble_eq_true rfl⟩ ⟨Nat.zero_le _, Nat.zero_le _⟩ rfl (Nat.le_of_ble_eq_true rfl) ?_
    refine b_if_eq (tgt := 79) C dX3_outside_36 (by decide) (fun c20 => ?_) (fun c20 => ?_)
    · have h21 := ipos h17 c20; clear h17
      refine b_iconst (v := (0 : Int32)) C dX3_outside_79 (by decide) ?_
      refine b_ior C dX3_outside_80 ?_
      obtain ⟨x23, ex23, h24⟩ := lt1_inv h21; clear h21
      refine b_nmI ex23 ?_
      refine b_istore_n (lv' := [(1, .int x23), (0, .ref (ad 0)), (2, .long x9), (4, .long x10), (6, .int x11)]) C dX3_outside_81 rfl (by decide) rfl ?_
      obtain ⟨x25, ex25, h26⟩ := lt1_inv h24; clear h24
      refine b_iinc (v := x25) (lv' := [(6, .int x25), (1, .int x23), (0, .ref (ad 0)), (2, .long x9), (4, .long x10)]) C 4 dX3_outside_82 rfl (by rw [ex25]; rfl) (by decide) rfl ?_
      refine b_goto (tgt := 20) C dX3_outside_85 (by decide) ?_
      exact b_sub [2, 1, 3, 4, 0] rfl (hq20 _ _ _ _ _ h26)
    have h22 := ineg h17 c20; clear h17
    refine b_aload_n C 0 dX3_outside_39 rfl rfl ?_
    refine b_iload C 4 dX3_outside_40 rfl ?_
    refine b_aload_n C 0 dX3_outside_42 rfl rfl ?_
    refine gX3_64 C X dX3_outside_43 ?_
    refine b_iconst (v := (0 : Int32)) C dX3_outside_46 (by decide) ?_
    obtain ⟨r29, σ28, ec27, h27⟩ := bd2_inv h22; clear h22
    refine b_callWl (rest := [.int x8]) C (sameM ad ca) X dX3_outside_47 (ctX3_end ec27) mf_X3_end mi_X3_end kl_X3_136 0 rfl rfl rfl rfl ⟨rfl, rfl⟩ ⟨Nat.le_of_ble_eq_true rfl, Nat.le_of_ble_eq_true rfl⟩ ⟨Nat.zero_le _, Nat.zero_le _⟩ rfl (Nat.le_of_ble_eq_true rfl) ?_
    refine b_lload_n C 2 dX3_outside_50 rfl rfl ?_
    refine b_lc_lt (tgt := 72) C dX3_outside_51 dX3_outside_52 (by decide) (fun c30 => ?_) (fun c30 => ?_)
    · have h31 := ipos h27 c30; clear h27
      refine b_iconst (v := (1 : Int32)) C dX3_outside_72 (by decide) ?_
      refine b_iload C 4 dX3_outside_73 rfl ?_
      refine b_ishl C dX3_outside_75 ?_
      refine b_goto (tgt := 80) C dX3_outside_76 (by decide) ?_
      refine b_ior C dX3_outside_80 ?_
      obtain ⟨x33, ex33, h34⟩ := lt1_inv h31; clear h31
      refine b_nmI ex33 ?_
      refine b_istore_n (lv' := [(1, .int x33), (0, .ref (ad 0)), (2, .long x9), (4, .long x10), (6, .int x11)]) C dX3_outside_81 rfl (by decide) rfl ?_
      obtain ⟨x35, ex35, h36⟩ := lt1_inv h34; clear h34
      refine b_iinc (v := x35) (lv' := [(6, .int x35), (1, .int x33), (0, .ref (ad 0)), (2, .long x9), (4, .long x10)]) C 4 dX3_outside_82 rfl (by rw [ex35]; rfl) (by decide) rfl ?_
      refine b_goto (tgt := 20) C dX3_outside_85 (by decide) ?_
      exact b_sub [2, 1, 3, 4, 0] rfl (hq20 _ _ _ _ _ h36)
    have h32 := ineg h27 c30; clear h27
    refine b_aload_n C 0 dX3_outside_55 rfl rfl ?_
    refine b_iload C 4 dX3_outside_56 rfl ?_
    refine b_aload_n C 0 dX3_outside_58 rfl rfl ?_
    refine gX3_64 C X dX3_outside_59 ?_
    refine b_iconst (v := (1 : Int32)) C dX3_outside_62 (by decide) ?_
    obtain ⟨r39, σ38, ec37, h37⟩ := bd2_inv h32; clear h32
    refine b_callWl (rest := [.int x8]) C (sameM ad ca) X dX3_outside_63 (ctX3_end ec37) mf_X3_end mi_X3_end kl_X3_136 0 rfl rfl rfl rfl ⟨rfl, rfl⟩ ⟨Nat.le_of_ble_eq_true rfl, Nat.le_of_ble_eq_true rfl⟩ ⟨Nat.zero_le _, Nat.zero_le _⟩ rfl (Nat.le_of_ble_eq_true rfl) ?_
    refine b_lload C 3 dX3_outside_66 rfl ?_
    refine b_lc_le (tgt := 79) C dX3_outside_68 dX3_outside_69 (by decide) (fun c40 => ?_) (fun c40 => ?_)
    · have h41 := ipos h37 c40; clear h37
      refine b_iconst (v := (0 : Int32)) C dX3_outside_79 (by decide) ?_
      refine b_ior C dX3_outside_80 ?_
      obtain ⟨x43, ex43, h44⟩ := lt1_inv h41; clear h41
      refine b_nmI ex43 ?_
      refine b_istore_n (lv' := [(1, .int x43), (0, .ref (ad 0)), (2, .long x9), (4, .long x10), (6, .int x11)]) C dX3_outside_81 rfl (by decide) rfl ?_
      obtain ⟨x45, ex45, h46⟩ := lt1_inv h44; clear h44
      refine b_iinc (v := x45) (lv' := [(6, .int x45), (1, .int x43), (0, .ref (ad 0)), (2, .long x9), (4, .long x10)]) C 4 dX3_outside_82 rfl (by rw [ex45]; rfl) (by decide) rfl ?_
      refine b_goto (tgt := 20) C dX3_outside_85 (by decide) ?_
      exact b_sub [2, 1, 3, 4, 0] rfl (hq20 _ _ _ _ _ h46)
    have h42 := ineg h37 c40; clear h37
    refine b_iconst (v := (1 : Int32)) C dX3_outside_72 (by decide) ?_
    refine b_iload C 4 dX3_outside_73 rfl ?_
    refine b_ishl C dX3_outside_75 ?_
    refine b_goto (tgt := 80) C dX3_outside_76 (by decide) ?_
    refine b_ior C dX3_outside_80 ?_
    obtain ⟨x47, ex47, h48⟩ := lt1_inv h42; clear h42
    refine b_nmI ex47 ?_
    refine b_istore_n (lv' := [(1, .int x47), (0, .ref (ad 0)), (2, .long x9), (4, .long x10), (6, .int x11)]) C dX3_outside_81 rfl (by decide) rfl ?_
    obtain ⟨x49, ex49, h50⟩ := lt1_inv h48; clear h48
    refine b_iinc (v := x49) (lv' := [(6, .int x49), (1, .int x47), (0, .ref (ad 0)), (2, .long x9), (4, .long x10)]) C 4 dX3_outside_82 rfl (by rw [ex49]; rfl) (by decide) rfl ?_
    refine b_goto (tgt := 20) C dX3_outside_85 (by decide) ?_
    exact b_sub [2, 1, 3, 4, 0] rfl (hq20 _ _ _ _ _ h50)
theorem ctX3_outside {l : Launch} {ad : Nat → Nat} {ca : Nat → ClassId} {N : Nat} {σ : St} {rf : Int32} {σf : St} (h : fX3_outside N σ = some (rf, σf)) : Cw l yX3_outside cX3_outside 7 (some .int) rmX3_outside [.ref (ad 0)] (wM ad ca) (tyM ca) σ (some (.int rf)) σf := by
  refine Cw_of (by decide) (sameM ad ca) (Nat.le_of_ble_eq_true rfl) ?_
  intro p e s m args below meth c D A C X hr
  replace C : Cb p s m args meth c RX3 cX3_outside 7 := C
  have h1 := h; clear h
  refine b_sub (lv' := [(0, .ref (ad 0))]) [0] rfl ?_
  refine b_iconst (v := (0 : Int32)) C dX3_outside_0 (by decide) ?_
  refine b_istore_n (lv' := [(1, .int (0 : Int32)), (0, .ref (ad 0))]) C dX3_outside_1 rfl (by decide) rfl ?_
  refine b_aload_n C 1 dX3_outside_2 rfl rfl ?_
  refine b_iconst (v := (-1 : Int32)) C dX3_outside_3 (by decide) ?_
  refine b_iconst (v := (0 : Int32)) C dX3_outside_4 (by decide) ?_
  obtain ⟨r4, σ3, ec2, h2⟩ := bd2_inv h1; clear h1
  refine b_callWl (rest := []) C (sameM ad ca) X dX3_outside_5 (ctX3_outermost ec2) mf_X3_outermost mi_X3_outermost kl_X3_153 0 rfl rfl rfl rfl ⟨rfl, rfl⟩ ⟨Nat.le_of_ble_eq_true rfl, Nat.le_of_ble_eq_true rfl⟩ ⟨Nat.zero_le _, Nat.zero_le _⟩ rfl (Nat.le_of_ble_eq_true rfl) ?_
  refine b_lstore_n (lv' := [(2, .long r4), (1, .int (0 : Int32)), (0, .ref (ad 0))]) C dX3_outside_8 rfl (by decide) rfl ?_
  refine b_aload_n C 2 dX3_outside_9 rfl rfl ?_
  refine b_iconst (v := (-1 : Int32)) C dX3_outside_10 (by decide) ?_
  refine b_iconst (v := (1 : Int32)) C dX3_outside_11 (by decide) ?_
  obtain ⟨r7, σ6, ec5, h5⟩ := bd2_inv h2; clear h2
  refine b_callWl (rest := []) C (sameM ad ca) X dX3_outside_12 (ctX3_outermost ec5) mf_X3_outermost mi_X3_outermost kl_X3_153 0 rfl rfl rfl rfl ⟨rfl, rfl⟩ ⟨Nat.le_of_ble_eq_true rfl, Nat.le_of_ble_eq_true rfl⟩ ⟨Nat.zero_le _, Nat.zero_le _⟩ rfl (Nat.le_of_ble_eq_true rfl) ?_
  refine b_lstore (lv' := [(4, .long r7), (2, .long r4), (1, .int (0 : Int32)), (0, .ref (ad 0))]) C dX3_outside_15 (by decide) rfl ?_
  refine b_iconst (v := (0 : Int32)) C dX3_outside_17 (by decide) ?_
  refine b_istore (lv' := [(6, .int (0 : Int32)), (4, .long r7), (2, .long r4), (1, .int (0 : Int32)), (0, .ref (ad 0))]) C dX3_outside_18 (by decide) rfl ?_
  refine b_sub [4, 3, 2, 1, 0] rfl (wX3_outside_20 C X hr (fun σ52 x51 h53 => ?_) _ _ _ _ _ _ h5)
  refine b_iload_n C 0 dX3_outside_88 rfl rfl ?_
  obtain ⟨rfl, rfl⟩ := so2 h53
  exact b_iret C dX3_outside_89 hr
def rmX3_roundsTo : Room := { frames := 6, cells := 0, slots := 0, locals := 155 }
def fX3_roundsTo (N : Nat) (σ : St) (a1 : Int32) (a2 : Int32) (a3 : Int32) : Option (Int32 × St) :=
  bd0 (fX3_isGoal a1 a2 a3) fun r6 =>
  if r6 = (0 : Int32) then (
  some ((-1002 : Int32), σ))
  else (
  lt1 (gI σ 3) fun x10 =>
  bd2 (fX3_goTo N σ a1 a2 a3) fun r14 σ13 =>
  lt1 (sI σ13 3 x10) fun σ15 =>
  if (0 : Int32) ≤ r14 then (
  some (r14, σ15))
  else (
  some ((-1005 : Int32), σ15)))
theorem ctX3_roundsTo {l : Launch} {ad : Nat → Nat} {ca : Nat → ClassId} {N : Nat} {σ : St} {a1 : Int32} {a2 : Int32} {a3 : Int32} {rf : Int32} {σf : St} (h : fX3_roundsTo N σ a1 a2 a3 = some (rf, σf)) : Cw l yX3_roundsTo cX3_roundsTo 6 (some .int) rmX3_roundsTo [.ref (ad 0), .int a1, .int a2, .int a3] (wM ad ca) (tyM ca) σ (some (.int rf)) σf := by
  refine Cw_of (by decide) (sameM ad ca) (Nat.le_of_ble_eq_true rfl) ?_
  intro p e s m args below meth c D A C X hr
  replace C : Cb p s m args meth c RX3 cX3_roundsTo 6 := C
  have h4 := h; clear h
  refine b_sub (lv' := [(0, .ref (ad 0)), (1, .int a1), (2, .int a2), (3, .int a3)]) [0, 1, 2, 3] rfl ?_
  refine b_iload_n C 1 dX3_roundsTo_0 rfl rfl ?_
  refine b_iload_n C 2 dX3_roundsTo_1 rfl rfl ?_
  refine b_iload_n C 3 dX3_roundsTo_2 rfl rfl ?_
  obtain ⟨r6, ec5, h5⟩ := bd0_inv h4; clear h4
  refine b_callSi (rest := []) C dX3_roundsTo_3 (ctX3_isGoal ec5) mf_X3_isGoal ms_X3_isGoal kl_X3_187 rfl ⟨rfl, rfl⟩ ⟨Nat.le_of_ble_eq_true rfl, Nat.le_of_ble_eq_true rfl⟩ ⟨Nat.zero_le _, Nat.zero_le _⟩ rfl (Nat.le_of_ble_eq_true rfl) ?_
  refine b_if_ne (tgt := 13) C dX3_roundsTo_6 (by decide) (fun c7 => ?_) (fun c7 => ?_)
  · have h8 := ineg h5 c7; clear h5
    refine b_aload_n C 0 dX3_roundsTo_13 rfl rfl ?_
    refine gX3_64 C X dX3_roundsTo_14 ?_
    obtain ⟨x10, ex10, h11⟩ := lt1_inv h8; clear h8
    refine b_nmI ex10 ?_
    refine b_istore (lv' := [(4, .int x10), (0, .ref (ad 0)), (1, .int a1), (2, .int a2), (3, .int a3)]) C dX3_roundsTo_17 (by decide) rfl ?_
    refine b_aload_n C 1 dX3_roundsTo_19 rfl rfl ?_
    refine b_iload_n C 2 dX3_roundsTo_20 rfl rfl ?_
    refine b_iload_n C 3 dX3_roundsTo_21 rfl rfl ?_
    refine b_iload_n C 4 dX3_roundsTo_22 rfl rfl ?_
    obtain ⟨r14, σ13, ec12, h12⟩ := bd2_inv h11; clear h11
    refine b_callWi (rest := []) C (sameM ad ca) X dX3_roundsTo_23 (ctX3_goTo ec12) mf_X3_goTo mi_X3_goTo kl_X3_191 0 rfl rfl rfl rfl ⟨rfl, rfl⟩ ⟨Nat.le_of_ble_eq_true rfl, Nat.le_of_ble_eq_true rfl⟩ ⟨Nat.zero_le _, Nat.zero_le _⟩ rfl (Nat.le_of_ble_eq_true rfl) ?_
    refine b_istore (lv' := [(5, .int r14), (4, .int x10), (0, .ref (ad 0)), (1, .int a1), (2, .int a2), (3, .int a3)]) C dX3_roundsTo_26 (by decide) rfl ?_
    refine b_aload_n C 2 dX3_roundsTo_28 rfl rfl ?_
    refine b_iload C 1 dX3_roundsTo_29 rfl ?_
    refine pX3_64 C X dX3_roundsTo_31 ?_
    obtain ⟨σ15, eσ15, h16⟩ := lt1_inv h12; clear h12
    refine b_nmS eσ15 ?_
    refine b_iload C 0 dX3_roundsTo_34 rfl ?_
    refine b_if_ge (tgt := 45) C dX3_roundsTo_36 (by decide) (fun c17 => ?_) (fun c17 => ?_)
    · have h18 := ipos h16 c17; clear h16
      refine b_iload C 0 dX3_roundsTo_45 rfl ?_
      obtain ⟨rfl, rfl⟩ := so2 h18
      exact b_iret C dX3_roundsTo_47 hr
    have h19 := ineg h16 c17; clear h16
    refine b_sipush (v := (-1005 : Int32)) C dX3_roundsTo_39 (by decide) ?_
    refine b_goto (tgt := 47) C dX3_roundsTo_42 (by decide) ?_
    obtain ⟨rfl, rfl⟩ := so2 h19
    exact b_iret C dX3_roundsTo_47 hr
  have h9 := ipos h5 c7; clear h5
  refine b_sipush (v := (-1002 : Int32)) C dX3_roundsTo_9 (by decide) ?_
  obtain ⟨rfl, rfl⟩ := so2 h9
  exact b_iret C dX3_roundsTo_12 hr
def rmX3_widthAfter : Room := { frames := 5, cells := 0, slots := 0, locals := 130 }
def fX3_widthAfter_7b (N : Nat) (q22 : St → Int32 → Option (Int64 × St)) (q7 : St → Int32 → Int32 → Int32 → Option (Int64 × St)) (σ8 : St) (x5 : Int32) (x6 : Int32) (x7 : Int32) : Option (Int64 × St) :=
  if x5 ≤ x7 then (
  q22 σ8 x6)
  else (
  bd0 (fX3_round N σ8) fun σ14 =>
  lt1 (x7 + (1 : Int32)) fun x15 =>
  q7 σ14 x5 x6 x15)
def fX3_widthAfter_7 (N : Nat) (q22 : St → Int32 → Option (Int64 × St)) : Nat → St → Int32 → Int32 → Int32 → Option (Int64 × St)
  | 0, _, _, _, _ => none
  | n + 1, σ, x5, x6, x7 => fX3_widthAfter_7b N q22 (fX3_widthAfter_7 N q22 n) σ x5 x6 x7
def fX3_widthAfter (N : Nat) (σ : St) (a1 : Int32) : Option (Int64 × St) :=
  lt1 (gI σ 3) fun x3 =>
  fX3_widthAfter_7 N (fun σ18 x17 =>
 bd2 (fX3_widthOf N σ18 (gI σ18 3)) fun r22 σ21 =>
  lt1 (sI σ21 3 x17) fun σ23 =>
  some (r22, σ23)) N σ a1 x3 (0 : Int32)
theorem wX3_widthAfter_7 {l : Launch} {p : Program} {e : Env} {s : State} {m : MethodId} {args : Array Value} {below : List Frame} {meth : Method} {c : Code} {D : va_G} {A : Nat → Prop} {ad : Nat → Nat} {ca : Nat → ClassId} {rf : Int64} {σf : St} (C : Cb p s m args meth c RX3 cX3_widthAfter 5) (X : Cx s D A (wM ad ca) (tyM ca)) (hr : meth.sig.returnType = (some .long)) {N : Nat} {q22 : St → Int32 → Option (Int64 × St)} (hq22 : ∀ (σ : St) (y0 : Int32), q22 σ y0 = some (rf, σf) → bW p l e rmX3_widthAfter s m args below meth c 0 0 (MQ below (Qw D (wM ad ca) σf (some (.long rf)) A) args s 0 0 A) 5 (wd D A (wM ad ca) s σ) 22 [(0, .ref (ad 0)), (2, .int y0)] []) : ∀ n : Nat, ∀ (σ : St) (y0 : Int32) (y1 : Int32) (y2 : Int32), fX3_widthAfter_7 N q22 n σ y0 y1 y2 = some (rf, σf) → bW p l e rmX3_widthAfter s m args below meth c 0 0 (MQ below (Qw D (wM ad ca) σf (some (.long rf)) A) args s 0 0 A) 5 (wd D A (wM ad ca) s σ) 7 [(0, .ref (ad 0)), (1, .int y0), (2, .int y1), (3, .int y2)] [] := by
  intro n
  induction n with
  | zero => intro σ8 x5 x6 x7 h9; exact nn h9
  | succ n hq7 =>
    intro σ8 x5 x6 x7 h9
    replace h9 : fX3_widthAfter_7b N q22 (fX3_widthAfter_7 N q22 n) σ8 x5 x6 x7 = some (rf, σf) := h9
    refine b_iload_n C 3 dX3_widthAfter_7 rfl rfl ?_
    refine b_iload_n C 1 dX3_widthAfter_8 rfl rfl ?_
    refine b_icmp_ge (tgt := 22) C dX3_widthAfter_9 (by decide) (fun c10 => ?_) (fun c10 => ?_)
    · have h11 := ipos h9 c10; clear h9
      exact b_sub [0, 2] rfl (hq22 _ _ h11)
    have h12 := ineg h9 c10; clear h9
    refine b_aload_n C 0 dX3_widthAfter_12 rfl rfl ?_
    obtain ⟨σ14, ec13, h13⟩ := bd0_inv h12; clear h12
    refine b_callWv (rest := []) C (sameM ad ca) X dX3_widthAfter_13 (ctX3_round ec13) mf_X3_round mi_X3_round kl_X3_180 0 rfl rfl rfl rfl ⟨rfl, rfl⟩ ⟨Nat.le_of_ble_eq_true rfl, Nat.le_of_ble_eq_true rfl⟩ ⟨Nat.zero_le _, Nat.zero_le _⟩ rfl (Nat.le_of_ble_eq_true rfl) ?_
    obtain ⟨x15, ex15, h16⟩ := lt1_inv h13; clear h13
    refine b_iinc (v := x15) (lv' := [(3, .int x15), (0, .ref (ad 0)), (1, .int x5), (2, .int x6)]) C 3 dX3_widthAfter_16 rfl (by rw [ex15]; rfl) (by decide) rfl ?_
    refine b_goto (tgt := 7) C dX3_widthAfter_19 (by decide) ?_
    exact b_sub [1, 2, 3, 0] rfl (hq7 _ _ _ _ h16)
theorem ctX3_widthAfter {l : Launch} {ad : Nat → Nat} {ca : Nat → ClassId} {N : Nat} {σ : St} {a1 : Int32} {rf : Int64} {σf : St} (h : fX3_widthAfter N σ a1 = some (rf, σf)) : Cw l yX3_widthAfter cX3_widthAfter 5 (some .long) rmX3_widthAfter [.ref (ad 0), .int a1] (wM ad ca) (tyM ca) σ (some (.long rf)) σf := by
  refine Cw_of (by decide) (sameM ad ca) (Nat.le_of_ble_eq_true rfl) ?_
  intro p e s m args below meth c D A C X hr
  replace C : Cb p s m args meth c RX3 cX3_widthAfter 5 := C
  have h2 := h; clear h
  refine b_sub (lv' := [(0, .ref (ad 0)), (1, .int a1)]) [0, 1] rfl ?_
  refine b_aload_n C 0 dX3_widthAfter_0 rfl rfl ?_
  refine gX3_64 C X dX3_widthAfter_1 ?_
  obtain ⟨x3, ex3, h4⟩ := lt1_inv h2; clear h2
  refine b_nmI ex3 ?_
  refine b_istore_n (lv' := [(2, .int x3), (0, .ref (ad 0)), (1, .int a1)]) C dX3_widthAfter_4 rfl (by decide) rfl ?_
  refine b_iconst (v := (0 : Int32)) C dX3_widthAfter_5 (by decide) ?_
  refine b_istore_n (lv' := [(3, .int (0 : Int32)), (2, .int x3), (0, .ref (ad 0)), (1, .int a1)]) C dX3_widthAfter_6 rfl (by decide) rfl ?_
  refine b_sub [2, 3, 1, 0] rfl (wX3_widthAfter_7 C X hr (fun σ18 x17 h19 => ?_) _ _ _ _ _ h4)
  refine b_aload_n C 0 dX3_widthAfter_22 rfl rfl ?_
  refine b_aload_n C 0 dX3_widthAfter_23 rfl rfl ?_
  refine gX3_64 C X dX3_widthAfter_24 ?_
  obtain ⟨r22, σ21, ec20, h20⟩ := bd2_inv h19; clear h19
  refine b_callWl (rest := []) C (sameM ad ca) X dX3_widthAfter_27 (ctX3_widthOf ec20) mf_X3_widthOf mi_X3_widthOf kl_X3_183 0 rfl rfl rfl rfl ⟨rfl, rfl⟩ ⟨Nat.le_of_ble_eq_true rfl, Nat.le_of_ble_eq_true rfl⟩ ⟨Nat.zero_le _, Nat.zero_le _⟩ rfl (Nat.le_of_ble_eq_true rfl) ?_
  refine b_lstore_n (lv' := [(3, .long r22), (0, .ref (ad 0)), (2, .int x17)]) C dX3_widthAfter_30 rfl (by decide) rfl ?_
  refine b_aload_n C 1 dX3_widthAfter_31 rfl rfl ?_
  refine b_iload_n C 2 dX3_widthAfter_32 rfl rfl ?_
  refine pX3_64 C X dX3_widthAfter_33 ?_
  obtain ⟨σ23, eσ23, h24⟩ := lt1_inv h20; clear h20
  refine b_nmS eσ23 ?_
  refine b_lload_n C 0 dX3_widthAfter_36 rfl rfl ?_
  obtain ⟨rfl, rfl⟩ := so2 h24
  exact b_lret C dX3_widthAfter_37 hr
def rmX3_worstStrategy : Room := { frames := 6, cells := 0, slots := 0, locals := 154 }
def fX3_worstStrategy_73b (N : Nat) (q135 : St → Int32 → Int32 → Int32 → Option (Int32 × St)) (q73 : St → Int32 → Int32 → Int32 → Int32 → Int64 → Int32 → Option (Int32 × St)) (σ34 : St) (x28 : Int32) (x29 : Int32) (x30 : Int32) (x31 : Int32) (x32 : Int64) (x33 : Int32) : Option (Int32 × St) :=
  if (6 : Int32) ≤ x33 then (
  q135 σ34 x28 x30 x31)
  else (
  if (x28 < 0 ∨ 10 ≤ (x28).toNatClampNeg) then none else
  lt1 (sF σ34 0 (upd (gF σ34 0) (x28).toNatClampNeg x33)) fun σ41 =>
  bd2 (fX3_widthAfter N σ41 x29) fun r45 σ44 =>
  if r45 ≤ x32 then (
  if r45 ≤ x32 then (
  lt1 (x33 + (1 : Int32)) fun x52 =>
  q73 σ44 x28 x29 x30 x31 x32 x52)
  else (
  lt1 (x33 + (1 : Int32)) fun x54 =>
  q73 σ44 x28 x29 x30 x31 r45 x54))
  else (
  if r45 ≤ x32 then (
  lt1 (x33 + (1 : Int32)) fun x59 =>
  q73 σ44 x28 x29 x30 x33 x32 x59)
  else (
  lt1 (x33 + (1 : Int32)) fun x61 =>
  q73 σ44 x28 x29 x30 x33 r45 x61)))
def fX3_worstStrategy_73 (N : Nat) (q135 : St → Int32 → Int32 → Int32 → Option (Int32 × St)) : Nat → St → Int32 → Int32 → Int32 → Int32 → Int64 → Int32 → Option (Int32 × St)
  | 0, _, _, _, _, _, _, _ => none
  | n + 1, σ, x28, x29, x30, x31, x32, x33 => fX3_worstStrategy_73b N q135 (fX3_worstStrategy_73 N q135 n) σ x28 x29 x30 x31 x32 x33
def fX3_worstStrategy (N : Nat) (σ : St) (a1 : Int32) (a2 : Int32) : Option (Int32 × St) :=
  bd2 (fX3_noNode σ a1) fun r6 σ5 =>
  if r6 = (0 : Int32) then (
  bd0 (fX3_within (a2.toInt64) (1 : Int64) (10 : Int64)) fun r11 =>
  if r11 = (0 : Int32) then (
  some ((-1002 : Int32), σ5))
  else (
  bd2 (fX3_isCorrect σ5 a1) fun r17 σ16 =>
  if r17 = (0 : Int32) then (
  if ((gI σ16 3) + a2) ≤ (60 : Int32) then (
  if (a1 < 0 ∨ 10 ≤ (a1).toNatClampNeg) then none else
  lt1 (gF σ16 0 (a1).toNatClampNeg) fun x26 =>
  fX3_worstStrategy_73 N (fun σ66 x63 x64 x65 =>
 if (x63 < 0 ∨ 10 ≤ (x63).toNatClampNeg) then none else
  lt1 (sF σ66 0 (upd (gF σ66 0) (x63).toNatClampNeg x64)) fun σ70 =>
  some (x65, σ70)) N σ16 a1 a2 x26 (0 : Int32) (-1 : Int64) (1 : Int32))
  else (
  some ((-1004 : Int32), σ16)))
  else (
  some ((-1003 : Int32), σ16))))
  else (
  some ((-1001 : Int32), σ5))
theorem wX3_worstStrategy_73 {l : Launch} {p : Program} {e : Env} {s : State} {m : MethodId} {args : Array Value} {below : List Frame} {meth : Method} {c : Code} {D : va_G} {A : Nat → Prop} {ad : Nat → Nat} {ca : Nat → ClassId} {rf : Int32} {σf : St} (C : Cb p s m args meth c RX3 cX3_worstStrategy 10) (X : Cx s D A (wM ad ca) (tyM ca)) (hr : meth.sig.returnType = (some .int)) {N : Nat} {q135 : St → Int32 → Int32 → Int32 → Option (Int32 × St)} (hq135 : ∀ (σ : St) (y0 : Int32) (y1 : Int32) (y2 : Int32), q135 σ y0 y1 y2 = some (rf, σf) → bW p l e rmX3_worstStrategy s m args below meth c 0 0 (MQ below (Qw D (wM ad ca) σf (some (.int rf)) A) args s 0 0 A) 10 (wd D A (wM ad ca) s σ) 135 [(0, .ref (ad 0)), (1, .int y0), (3, .int y1), (4, .int y2)] []) : ∀ n : Nat, ∀ (σ : St) (y0 : Int32) (y1 : Int32) (y2 : Int32) (y3 : Int32) (y4 : Int64) (y5 : Int32), fX3_worstStrategy_73 N q135 n σ y0 y1 y2 y3 y4 y5 = some (rf, σf) → bW p l e rmX3_worstStrategy s m args below meth c 0 0 (MQ below (Qw D (wM ad ca) σf (some (.int rf)) A) args s 0 0 A) 10 (wd D A (wM ad ca) s σ) 73 [(0, .ref (ad 0)), (1, .int y0), (2, .int y1), (3, .int y2), (4, .int y3), (5, .long y4), (7, .int y5)] [] := by
  intro n
  induction n with
  | zero => intro σ34 x28 x29 x30 x31 x32 x33 h35; exact nn h35
  | succ n hq73 =>
    intro σ34 x28 x29 x30 x31 x32 x33 h35
    replace h35 : fX3_worstStrategy_73b N q135 (fX3_worstStrategy_73 N q135 n) σ34 x28 x29 x30 x31 x32 x33 = some (rf, σf) := h35
    refine b_iload C 6 dX3_worstStrategy_73 rfl ?_
    refine b_bipush (v := (6 : Int32)) C dX3_worstStrategy_75 (by decide) ?_
    refine b_icmp_ge (tgt := 135) C dX3_worstStrategy_77 (by decide) (fun c36 => ?_) (fun c36 => ?_)
    · have h37 := ipos h35 c36; clear h35
      exact b_sub [0, 1, 3, 4] rfl (hq135 _ _ _ _ h37)
    have h38 := ineg h35 c36; clear h35
    refine b_aload_n C 0 dX3_worstStrategy_80 rfl rfl ?_
    refine gX3_13 C X dX3_worstStrategy_81 ?_
    refine b_iload_n C 1 dX3_worstStrategy_84 rfl rfl ?_
    refine b_iload C 6 dX3_worstStrategy_85 rfl ?_
    obtain ⟨g40, h39⟩ := gdn h38; clear h38
    refine aM_2 C X g40 dX3_worstStrategy_87 ?_
    obtain ⟨σ41, eσ41, h42⟩ := lt1_inv h39; clear h39
    refine b_nmS eσ41 ?_
    refine b_aload_n C 0 dX3_worstStrategy_88 rfl rfl ?_
    refine b_iload_n C 2 dX3_worstStrategy_89 rfl rfl ?_
    obtain ⟨r45, σ44, ec43, h43⟩ := bd2_inv h42; clear h42
    refine b_callWl (rest := []) C (sameM ad ca) X dX3_worstStrategy_90 (ctX3_widthAfter ec43) mf_X3_widthAfter mi_X3_widthAfter kl_X3_205 0 rfl rfl rfl rfl ⟨rfl, rfl⟩ ⟨Nat.le_of_ble_eq_true rfl, Nat.le_of_ble_eq_true rfl⟩ ⟨Nat.zero_le _, Nat.zero_le _⟩ rfl (Nat.le_of_ble_eq_true rfl) ?_
    refine b_lstore (lv' := [(8, .long r45), (0, .ref (ad 0)), (1, .int x28), (2, .int x29), (3, .int x30), (4, .int x31), (5, .long x32), (7, .int x33)]) C dX3_worstStrategy_93 (by decide) rfl ?_
    refine b_lload C 0 dX3_worstStrategy_95 rfl ?_
    refine b_lload C 6 dX3_worstStrategy_97 rfl ?_
    refine b_lc_le (tgt := 108) C dX3_worstStrategy_99 dX3_worstStrategy_100 (by decide) (fun c46 => ?_) (fun c46 => ?_)
    · have h47 := ipos h43 c46; clear h43
      refine b_iload C 5 dX3_worstStrategy_108 rfl ?_
      refine b_istore (lv' := [(4, .int x31), (8, .long r45), (0, .ref (ad 0)), (1, .int x28), (2, .int x29), (3, .int x30), (5, .long x32), (7, .int x33)]) C dX3_worstStrategy_110 (by decide) rfl ?_
      refine b_lload C 1 dX3_worstStrategy_112 rfl ?_
      refine b_lload C 6 dX3_worstStrategy_114 rfl ?_
      refine b_lc_le (tgt := 125) C dX3_worstStrategy_116 dX3_worstStrategy_117 (by decide) (fun c49 => ?_) (fun c49 => ?_)
      · have h50 := ipos h47 c49; clear h47
        refine b_lload C 6 dX3_worstStrategy_125 rfl ?_
        refine b_lstore (lv' := [(5, .long x32), (4, .int x31), (8, .long r45), (0, .ref (ad 0)), (1, .int x28), (2, .int x29), (3, .int x30), (7, .int x33)]) C dX3_worstStrategy_127 (by decide) rfl ?_
        obtain ⟨x52, ex52, h53⟩ := lt1_inv h50; clear h50
        refine b_iinc (v := x52) (lv' := [(7, .int x52), (5, .long x32), (4, .int x31), (8, .long r45), (0, .ref (ad 0)), (1, .int x28), (2, .int x29), (3, .int x30)]) C 7 dX3_worstStrategy_129 rfl (by rw [ex52]; rfl) (by decide) rfl ?_
        refine b_goto (tgt := 73) C dX3_worstStrategy_132 (by decide) ?_
        exact b_sub [4, 5, 6, 7, 2, 1, 0] rfl (hq73 _ _ _ _ _ _ _ h53)
      have h51 := ineg h47 c49; clear h47
      refine b_lload C 1 dX3_worstStrategy_120 rfl ?_
      refine b_goto (tgt := 127) C dX3_worstStrategy_122 (by decide) ?_
      refine b_lstore (lv' := [(5, .long r45), (4, .int x31), (8, .long r45), (0, .ref (ad 0)), (1, .int x28), (2, .int x29), (3, .int x30), (7, .int x33)]) C dX3_worstStrategy_127 (by decide) rfl ?_
      obtain ⟨x54, ex54, h55⟩ := lt1_inv h51; clear h51
      refine b_iinc (v := x54) (lv' := [(7, .int x54), (5, .long r45), (4, .int x31), (8, .long r45), (0, .ref (ad 0)), (1, .int x28), (2, .int x29), (3, .int x30)]) C 7 dX3_worstStrategy_129 rfl (by rw [ex54]; rfl) (by decide) rfl ?_
      refine b_goto (tgt := 73) C dX3_worstStrategy_132 (by decide) ?_
      exact b_sub [4, 5, 6, 7, 2, 1, 0] rfl (hq73 _ _ _ _ _ _ _ h55)
    have h48 := ineg h43 c46; clear h43
    refine b_iload C 7 dX3_worstStrategy_103 rfl ?_
    refine b_goto (tgt := 110) C dX3_worstStrategy_105 (by decide) ?_
    refine b_istore (lv' := [(4, .int x33), (8, .long r45), (0, .ref (ad 0)), (1, .int x28), (2, .int x29), (3, .int x30), (5, .long x32), (7, .int x33)]) C dX3_worstStrategy_110 (by decide) rfl ?_
    refine b_lload C 1 dX3_worstStrategy_112 rfl ?_
    refine b_lload C 6 dX3_worstStrategy_114 rfl ?_
    refine b_lc_le (tgt := 125) C dX3_worstStrategy_116 dX3_worstStrategy_117 (by decide) (fun c56 => ?_) (fun c56 => ?_)
    · have h57 := ipos h48 c56; clear h48
      refine b_lload C 6 dX3_worstStrategy_125 rfl ?_
      refine b_lstore (lv' := [(5, .long x32), (4, .int x33), (8, .long r45), (0, .ref (ad 0)), (1, .int x28), (2, .int x29), (3, .int x30), (7, .int x33)]) C dX3_worstStrategy_127 (by decide) rfl ?_
      obtain ⟨x59, ex59, h60⟩ := lt1_inv h57; clear h57
      refine b_iinc (v := x59) (lv' := [(7, .int x59), (5, .long x32), (4, .int x33), (8, .long r45), (0, .ref (ad 0)), (1, .int x28), (2, .int x29), (3, .int x30)]) C 7 dX3_worstStrategy_129 rfl (by rw [ex59]; rfl) (by decide) rfl ?_
      refine b_goto (tgt := 73) C dX3_worstStrategy_132 (by decide) ?_
      exact b_sub [4, 5, 6, 7, 2, 1, 0] rfl (hq73 _ _ _ _ _ _ _ h60)
    have h58 := ineg h48 c56; clear h48
    refine b_lload C 1 dX3_worstStrategy_120 rfl ?_
    refine b_goto (tgt := 127) C dX3_worstStrategy_122 (by decide) ?_
    refine b_lstore (lv' := [(5, .long r45), (4, .int x33), (8, .long r45), (0, .ref (ad 0)), (1, .int x28), (2, .int x29), (3, .int x30), (7, .int x33)]) C dX3_worstStrategy_127 (by decide) rfl ?_
    obtain ⟨x61, ex61, h62⟩ := lt1_inv h58; clear h58
    refine b_iinc (v := x61) (lv' := [(7, .int x61), (5, .long r45), (4, .int x33), (8, .long r45), (0, .ref (ad 0)), (1, .int x28), (2, .int x29), (3, .int x30)]) C 7 dX3_worstStrategy_129 rfl (by rw [ex61]; rfl) (by decide) rfl ?_
    refine b_goto (tgt := 73) C dX3_worstStrategy_132 (by decide) ?_
    exact b_sub [4, 5, 6, 7, 2, 1, 0] rfl (hq73 _ _ _ _ _ _ _ h62)
theorem ctX3_worstStrategy {l : Launch} {ad : Nat → Nat} {ca : Nat → ClassId} {N : Nat} {σ : St} {a1 : Int32} {a2 : Int32} {rf : Int32} {σf : St} (h : fX3_worstStrategy N σ a1 a2 = some (rf, σf)) : Cw l yX3_worstStrategy cX3_worstStrategy 10 (some .int) rmX3_worstStrategy [.ref (ad 0), .int a1, .int a2] (wM ad ca) (tyM ca) σ (some (.int rf)) σf := by
  refine Cw_of (by decide) (sameM ad ca) (Nat.le_of_ble_eq_true rfl) ?_
  intro p e s m args below meth c D A C X hr
  replace C : Cb p s m args meth c RX3 cX3_worstStrategy 10 := C
  have h3 := h; clear h
  refine b_sub (lv' := [(0, .ref (ad 0)), (1, .int a1), (2, .int a2)]) [0, 1, 2] rfl ?_
  refine b_aload_n C 0 dX3_worstStrategy_0 rfl rfl ?_
  refine b_iload_n C 1 dX3_worstStrategy_1 rfl rfl ?_
  obtain ⟨r6, σ5, ec4, h4⟩ := bd2_inv h3; clear h3
  refine b_callWi (rest := []) C (sameM ad ca) X dX3_worstStrategy_2 (ctX3_noNode ec4) mf_X3_noNode mi_X3_noNode kl_X3_117 0 rfl rfl rfl rfl ⟨rfl, rfl⟩ ⟨Nat.le_of_ble_eq_true rfl, Nat.le_of_ble_eq_true rfl⟩ ⟨Nat.zero_le _, Nat.zero_le _⟩ rfl (Nat.le_of_ble_eq_true rfl) ?_
  refine b_if_eq (tgt := 12) C dX3_worstStrategy_5 (by decide) (fun c7 => ?_) (fun c7 => ?_)
  · have h8 := ipos h4 c7; clear h4
    refine b_iload_n C 2 dX3_worstStrategy_12 rfl rfl ?_
    refine b_i2l C dX3_worstStrategy_13 ?_
    refine b_lconst (v := (1 : Int64)) C dX3_worstStrategy_14 (by decide) ?_
    refine b_ldc2 (v := (10 : Int64)) C dX3_worstStrategy_15 kc_X3_69 ?_
    obtain ⟨r11, ec10, h10⟩ := bd0_inv h8; clear h8
    refine b_callSi (rest := []) C dX3_worstStrategy_18 (ctX3_within ec10) mf_X3_within ms_X3_within kl_X3_71 rfl ⟨rfl, rfl⟩ ⟨Nat.le_of_ble_eq_true rfl, Nat.le_of_ble_eq_true rfl⟩ ⟨Nat.zero_le _, Nat.zero_le _⟩ rfl (Nat.le_of_ble_eq_true rfl) ?_
    refine b_if_ne (tgt := 28) C dX3_worstStrategy_21 (by decide) (fun c12 => ?_) (fun c12 => ?_)
    · have h13 := ineg h10 c12; clear h10
      refine b_aload_n C 0 dX3_worstStrategy_28 rfl rfl ?_
      refine b_iload_n C 1 dX3_worstStrategy_29 rfl rfl ?_
      obtain ⟨r17, σ16, ec15, h15⟩ := bd2_inv h13; clear h13
      refine b_callWi (rest := []) C (sameM ad ca) X dX3_worstStrategy_30 (ctX3_isCorrect ec15) mf_X3_isCorrect mi_X3_isCorrect kl_X3_133 0 rfl rfl rfl rfl ⟨rfl, rfl⟩ ⟨Nat.le_of_ble_eq_true rfl, Nat.le_of_ble_eq_true rfl⟩ ⟨Nat.zero_le _, Nat.zero_le _⟩ rfl (Nat.le_of_ble_eq_true rfl) ?_
      refine b_if_eq (tgt := 40) C dX3_worstStrategy_33 (by decide) (fun c18 => ?_) (fun c18 => ?_)
      · have h19 := ipos h15 c18; clear h15
        refine b_aload_n C 0 dX3_worstStrategy_40 rfl rfl ?_
        refine gX3_64 C X dX3_worstStrategy_41 ?_
        refine b_iload_n C 2 dX3_worstStrategy_44 rfl rfl ?_
        refine b_iadd C dX3_worstStrategy_45 ?_
        refine b_bipush (v := (60 : Int32)) C dX3_worstStrategy_46 (by decide) ?_
        refine b_icmp_le (tgt := 55) C dX3_worstStrategy_48 (by decide) (fun c21 => ?_) (fun c21 => ?_)
        · have h22 := ipos h19 c21; clear h19
          refine b_aload_n C 0 dX3_worstStrategy_55 rfl rfl ?_
          refine gX3_13 C X dX3_worstStrategy_56 ?_
          refine b_iload_n C 1 dX3_worstStrategy_59 rfl rfl ?_
          obtain ⟨g25, h24⟩ := gdn h22; clear h22
          refine lM_2 C X g25 dX3_worstStrategy_60 ?_
          obtain ⟨x26, ex26, h27⟩ := lt1_inv h24; clear h24
          refine b_nmI ex26 ?_
          refine b_istore_n (lv' := [(3, .int x26), (0, .ref (ad 0)), (1, .int a1), (2, .int a2)]) C dX3_worstStrategy_61 rfl (by decide) rfl ?_
          refine b_iconst (v := (0 : Int32)) C dX3_worstStrategy_62 (by decide) ?_
          refine b_istore (lv' := [(4, .int (0 : Int32)), (3, .int x26), (0, .ref (ad 0)), (1, .int a1), (2, .int a2)]) C dX3_worstStrategy_63 (by decide) rfl ?_
          refine b_ldc2 (v := (-1 : Int64)) C dX3_worstStrategy_65 kc_X3_131 ?_
          refine b_lstore (lv' := [(5, .long (-1 : Int64)), (4, .int (0 : Int32)), (3, .int x26), (0, .ref (ad 0)), (1, .int a1), (2, .int a2)]) C dX3_worstStrategy_68 (by decide) rfl ?_
          refine b_iconst (v := (1 : Int32)) C dX3_worstStrategy_70 (by decide) ?_
          refine b_istore (lv' := [(7, .int (1 : Int32)), (5, .long (-1 : Int64)), (4, .int (0 : Int32)), (3, .int x26), (0, .ref (ad 0)), (1, .int a1), (2, .int a2)]) C dX3_worstStrategy_71 (by decide) rfl ?_
          refine b_sub [4, 5, 6, 3, 2, 1, 0] rfl (wX3_worstStrategy_73 C X hr (fun σ66 x63 x64 x65 h67 => ?_) _ _ _ _ _ _ _ _ h27)
          refine b_aload_n C 0 dX3_worstStrategy_135 rfl rfl ?_
          refine gX3_13 C X dX3_worstStrategy_136 ?_
          refine b_iload_n C 1 dX3_worstStrategy_139 rfl rfl ?_
          refine b_iload_n C 2 dX3_worstStrategy_140 rfl rfl ?_
          obtain ⟨g69, h68⟩ := gdn h67; clear h67
          refine aM_2 C X g69 dX3_worstStrategy_141 ?_
          obtain ⟨σ70, eσ70, h71⟩ := lt1_inv h68; clear h68
          refine b_nmS eσ70 ?_
          refine b_iload C 3 dX3_worstStrategy_142 rfl ?_
          obtain ⟨rfl, rfl⟩ := so2 h71
          exact b_iret C dX3_worstStrategy_144 hr
        have h23 := ineg h19 c21; clear h19
        refine b_sipush (v := (-1004 : Int32)) C dX3_worstStrategy_51 (by decide) ?_
        obtain ⟨rfl, rfl⟩ := so2 h23
        exact b_iret C dX3_worstStrategy_54 hr
      have h20 := ineg h15 c18; clear h15
      refine b_sipush (v := (-1003 : Int32)) C dX3_worstStrategy_36 (by decide) ?_
      obtain ⟨rfl, rfl⟩ := so2 h20
      exact b_iret C dX3_worstStrategy_39 hr
    have h14 := ipos h10 c12; clear h10
    refine b_sipush (v := (-1002 : Int32)) C dX3_worstStrategy_24 (by decide) ?_
    obtain ⟨rfl, rfl⟩ := so2 h14
    exact b_iret C dX3_worstStrategy_27 hr
  have h9 := ineg h4 c7; clear h4
  refine b_sipush (v := (-1001 : Int32)) C dX3_worstStrategy_8 (by decide) ?_
  obtain ⟨rfl, rfl⟩ := so2 h9
  exact b_iret C dX3_worstStrategy_11 hr
def rmX3_bestRule : Room := { frames := 6, cells := 0, slots := 0, locals := 154 }
def fX3_bestRule_76 (N : Nat) (q44 : St → Int32 → Int32 → Int32 → Int64 → Int32 → Option (Int32 × St)) (σ36 : St) (x31 : Int32) (x32 : Int32) (x33 : Int64) (x34 : Int32) (x35 : Int64) : Option (Int32 × St) :=
  if x34 = (0 : Int32) then (
  lt1 (x34 + (1 : Int32)) fun x41 =>
  q44 σ36 x31 x32 x34 x35 x41)
  else (
  if x33 ≤ x35 then (
  lt1 (x34 + (1 : Int32)) fun x46 =>
  q44 σ36 x31 x32 x34 x33 x46)
  else (
  lt1 (x34 + (1 : Int32)) fun x48 =>
  q44 σ36 x31 x32 x34 x35 x48))
def fX3_bestRule_44b (N : Nat) (q111 : St → Int32 → Int32 → Option (Int32 × St)) (q44 : St → Int32 → Int32 → Int32 → Int64 → Int32 → Option (Int32 × St)) (σ18 : St) (x13 : Int32) (x14 : Int32) (x15 : Int32) (x16 : Int64) (x17 : Int32) : Option (Int32 × St) :=
  if (4 : Int32) ≤ x17 then (
  q111 σ18 x14 x15)
  else (
  lt1 (sI σ18 2 x17) fun σ23 =>
  bd2 (fX3_widthAfter N σ23 x13) fun r27 σ26 =>
  if x17 = (0 : Int32) then (
  fX3_bestRule_76 N q44 σ26 x13 x14 x16 x17 r27)
  else (
  if x16 ≤ r27 then (
  if x17 = (0 : Int32) then (
  lt1 (x17 + (1 : Int32)) fun x56 =>
  q44 σ26 x13 x14 x15 r27 x56)
  else (
  if x16 ≤ r27 then (
  lt1 (x17 + (1 : Int32)) fun x61 =>
  q44 σ26 x13 x14 x15 x16 x61)
  else (
  lt1 (x17 + (1 : Int32)) fun x63 =>
  q44 σ26 x13 x14 x15 r27 x63)))
  else (
  fX3_bestRule_76 N q44 σ26 x13 x14 x16 x17 r27)))
def fX3_bestRule_44 (N : Nat) (q111 : St → Int32 → Int32 → Option (Int32 × St)) : Nat → St → Int32 → Int32 → Int32 → Int64 → Int32 → Option (Int32 × St)
  | 0, _, _, _, _, _, _ => none
  | n + 1, σ, x13, x14, x15, x16, x17 => fX3_bestRule_44b N q111 (fX3_bestRule_44 N q111 n) σ x13 x14 x15 x16 x17
def fX3_bestRule (N : Nat) (σ : St) (a1 : Int32) : Option (Int32 × St) :=
  bd0 (fX3_within (a1.toInt64) (1 : Int64) (10 : Int64)) fun r4 =>
  if r4 = (0 : Int32) then (
  some ((-1002 : Int32), σ))
  else (
  if ((gI σ 3) + a1) ≤ (60 : Int32) then (
  lt1 (gI σ 2) fun x11 =>
  fX3_bestRule_44 N (fun σ67 x65 x66 =>
 lt1 (sI σ67 2 x65) fun σ69 =>
  some (x66, σ69)) N σ a1 x11 (0 : Int32) (0 : Int64) (0 : Int32))
  else (
  some ((-1004 : Int32), σ)))
theorem wX3_bestRule_76 {l : Launch} {p : Program} {e : Env} {s : State} {m : MethodId} {args : Array Value} {below : List Frame} {meth : Method} {c : Code} {D : va_G} {A : Nat → Prop} {ad : Nat → Nat} {ca : Nat → ClassId} {rf : Int32} {σf : St} (C : Cb p s m args meth c RX3 cX3_bestRule 9) (X : Cx s D A (wM ad ca) (tyM ca)) (hr : meth.sig.returnType = (some .int)) {N : Nat} {q44 : St → Int32 → Int32 → Int32 → Int64 → Int32 → Option (Int32 × St)} (hq44 : ∀ (σ : St) (y0 : Int32) (y1 : Int32) (y2 : Int32) (y3 : Int64) (y4 : Int32), q44 σ y0 y1 y2 y3 y4 = some (rf, σf) → bW p l e rmX3_bestRule s m args below meth c 0 0 (MQ below (Qw D (wM ad ca) σf (some (.int rf)) A) args s 0 0 A) 9 (wd D A (wM ad ca) s σ) 44 [(0, .ref (ad 0)), (1, .int y0), (2, .int y1), (3, .int y2), (4, .long y3), (6, .int y4)] []) : ∀ (σ : St) (y0 : Int32) (y1 : Int32) (y2 : Int64) (y3 : Int32) (y4 : Int64), fX3_bestRule_76 N q44 σ y0 y1 y2 y3 y4 = some (rf, σf) → bW p l e rmX3_bestRule s m args below meth c 0 0 (MQ below (Qw D (wM ad ca) σf (some (.int rf)) A) args s 0 0 A) 9 (wd D A (wM ad ca) s σ) 76 [(0, .ref (ad 0)), (1, .int y0), (2, .int y1), (4, .long y2), (6, .int y3), (7, .long y4)] [] := by
  intro σ36 x31 x32 x33 x34 x35 h37
  refine b_iload C 4 dX3_bestRule_76 rfl ?_
  refine b_goto (tgt := 82) C dX3_bestRule_78 (by decide) ?_
  refine b_istore_n (lv' := [(3, .int x34), (0, .ref (ad 0)), (1, .int x31), (2, .int x32), (4, .long x33), (6, .int x34), (7, .long x35)]) C dX3_bestRule_82 rfl (by decide) rfl ?_
  refine b_iload C 5 dX3_bestRule_83 rfl ?_
  refine b_if_eq (tgt := 96) C dX3_bestRule_85 (by decide) (fun c38 => ?_) (fun c38 => ?_)
  · have h39 := ipos h37 c38; clear h37
    refine b_lload C 6 dX3_bestRule_96 rfl ?_
    refine b_goto (tgt := 103) C dX3_bestRule_98 (by decide) ?_
    refine b_lstore (lv' := [(4, .long x35), (3, .int x34), (0, .ref (ad 0)), (1, .int x31), (2, .int x32), (6, .int x34), (7, .long x35)]) C dX3_bestRule_103 (by decide) rfl ?_
    obtain ⟨x41, ex41, h42⟩ := lt1_inv h39; clear h39
    refine b_iinc (v := x41) (lv' := [(6, .int x41), (4, .long x35), (3, .int x34), (0, .ref (ad 0)), (1, .int x31), (2, .int x32), (7, .long x35)]) C 5 dX3_bestRule_105 rfl (by rw [ex41]; rfl) (by decide) rfl ?_
    refine b_goto (tgt := 44) C dX3_bestRule_108 (by decide) ?_
    exact b_sub [3, 4, 5, 2, 1, 0] rfl (hq44 _ _ _ _ _ _ h42)
  have h40 := ineg h37 c38; clear h37
  refine b_lload C 6 dX3_bestRule_88 rfl ?_
  refine b_lload C 4 dX3_bestRule_90 rfl ?_
  refine b_lc_ge (tgt := 101) C dX3_bestRule_92 dX3_bestRule_93 (by decide) (fun c43 => ?_) (fun c43 => ?_)
  · have h44 := ipos h40 c43; clear h40
    refine b_lload C 4 dX3_bestRule_101 rfl ?_
    refine b_lstore (lv' := [(4, .long x33), (3, .int x34), (0, .ref (ad 0)), (1, .int x31), (2, .int x32), (6, .int x34), (7, .long x35)]) C dX3_bestRule_103 (by decide) rfl ?_
    obtain ⟨x46, ex46, h47⟩ := lt1_inv h44; clear h44
    refine b_iinc (v := x46) (lv' := [(6, .int x46), (4, .long x33), (3, .int x34), (0, .ref (ad 0)), (1, .int x31), (2, .int x32), (7, .long x35)]) C 5 dX3_bestRule_105 rfl (by rw [ex46]; rfl) (by decide) rfl ?_
    refine b_goto (tgt := 44) C dX3_bestRule_108 (by decide) ?_
    exact b_sub [3, 4, 5, 2, 1, 0] rfl (hq44 _ _ _ _ _ _ h47)
  have h45 := ineg h40 c43; clear h40
  refine b_lload C 6 dX3_bestRule_96 rfl ?_
  refine b_goto (tgt := 103) C dX3_bestRule_98 (by decide) ?_
  refine b_lstore (lv' := [(4, .long x35), (3, .int x34), (0, .ref (ad 0)), (1, .int x31), (2, .int x32), (6, .int x34), (7, .long x35)]) C dX3_bestRule_103 (by decide) rfl ?_
  obtain ⟨x48, ex48, h49⟩ := lt1_inv h45; clear h45
  refine b_iinc (v := x48) (lv' := [(6, .int x48), (4, .long x35), (3, .int x34), (0, .ref (ad 0)), (1, .int x31), (2, .int x32), (7, .long x35)]) C 5 dX3_bestRule_105 rfl (by rw [ex48]; rfl) (by decide) rfl ?_
  refine b_goto (tgt := 44) C dX3_bestRule_108 (by decide) ?_
  exact b_sub [3, 4, 5, 2, 1, 0] rfl (hq44 _ _ _ _ _ _ h49)
theorem wX3_bestRule_44 {l : Launch} {p : Program} {e : Env} {s : State} {m : MethodId} {args : Array Value} {below : List Frame} {meth : Method} {c : Code} {D : va_G} {A : Nat → Prop} {ad : Nat → Nat} {ca : Nat → ClassId} {rf : Int32} {σf : St} (C : Cb p s m args meth c RX3 cX3_bestRule 9) (X : Cx s D A (wM ad ca) (tyM ca)) (hr : meth.sig.returnType = (some .int)) {N : Nat} {q111 : St → Int32 → Int32 → Option (Int32 × St)} (hq111 : ∀ (σ : St) (y0 : Int32) (y1 : Int32), q111 σ y0 y1 = some (rf, σf) → bW p l e rmX3_bestRule s m args below meth c 0 0 (MQ below (Qw D (wM ad ca) σf (some (.int rf)) A) args s 0 0 A) 9 (wd D A (wM ad ca) s σ) 111 [(0, .ref (ad 0)), (2, .int y0), (3, .int y1)] []) : ∀ n : Nat, ∀ (σ : St) (y0 : Int32) (y1 : Int32) (y2 : Int32) (y3 : Int64) (y4 : Int32), fX3_bestRule_44 N q111 n σ y0 y1 y2 y3 y4 = some (rf, σf) → bW p l e rmX3_bestRule s m args below meth c 0 0 (MQ below (Qw D (wM ad ca) σf (some (.int rf)) A) args s 0 0 A) 9 (wd D A (wM ad ca) s σ) 44 [(0, .ref (ad 0)), (1, .int y0), (2, .int y1), (3, .int y2), (4, .long y3), (6, .int y4)] [] := by
  intro n
  induction n with
  | zero => intro σ18 x13 x14 x15 x16 x17 h19; exact nn h19
  | succ n hq44 =>
    intro σ18 x13 x14 x15 x16 x17 h19
    replace h19 : fX3_bestRule_44b N q111 (fX3_bestRule_44 N q111 n) σ18 x13 x14 x15 x16 x17 = some (rf, σf) := h19
    refine b_iload C 5 dX3_bestRule_44 rfl ?_
    refine b_iconst (v := (4 : Int32)) C dX3_bestRule_46 (by decide) ?_
    refine b_icmp_ge (tgt := 111) C dX3_bestRule_47 (by decide) (fun c20 => ?_) (fun c20 => ?_)
    · have h21 := ipos h19 c20; clear h19
      exact b_sub [0, 2, 3] rfl (hq111 _ _ _ h21)
    have h22 := ineg h19 c20; clear h19
    refine b_aload_n C 0 dX3_bestRule_50 rfl rfl ?_
    refine b_iload C 5 dX3_bestRule_51 rfl ?_
    refine pX3_61 C X dX3_bestRule_53 ?_
    obtain ⟨σ23, eσ23, h24⟩ := lt1_inv h22; clear h22
    refine b_nmS eσ23 ?_
    refine b_aload_n C 0 dX3_bestRule_56 rfl rfl ?_
    refine b_iload_n C 1 dX3_bestRule_57 rfl rfl ?_
    obtain ⟨r27, σ26, ec25, h25⟩ := bd2_inv h24; clear h24
    refine b_callWl (rest := []) C (sameM ad ca) X dX3_bestRule_58 (ctX3_widthAfter ec25) mf_X3_widthAfter mi_X3_widthAfter kl_X3_205 0 rfl rfl rfl rfl ⟨rfl, rfl⟩ ⟨Nat.le_of_ble_eq_true rfl, Nat.le_of_ble_eq_true rfl⟩ ⟨Nat.zero_le _, Nat.zero_le _⟩ rfl (Nat.le_of_ble_eq_true rfl) ?_
    refine b_lstore (lv' := [(7, .long r27), (0, .ref (ad 0)), (1, .int x13), (2, .int x14), (3, .int x15), (4, .long x16), (6, .int x17)]) C dX3_bestRule_61 (by decide) rfl ?_
    refine b_iload C 6 dX3_bestRule_63 rfl ?_
    refine b_if_eq (tgt := 76) C dX3_bestRule_65 (by decide) (fun c28 => ?_) (fun c28 => ?_)
    · have h29 := ipos h25 c28; clear h25
      exact b_sub [1, 2, 3, 5, 6, 0] rfl (wX3_bestRule_76 C X hr hq44 _ _ _ _ _ _ h29)
    have h30 := ineg h25 c28; clear h25
    refine b_lload C 0 dX3_bestRule_68 rfl ?_
    refine b_lload C 5 dX3_bestRule_70 rfl ?_
    refine b_lc_ge (tgt := 81) C dX3_bestRule_72 dX3_bestRule_73 (by decide) (fun c50 => ?_) (fun c50 => ?_)
    · have h51 := ipos h30 c50; clear h30
      refine b_iload_n C 4 dX3_bestRule_81 rfl rfl ?_
      refine b_istore_n (lv' := [(3, .int x15), (7, .long r27), (0, .ref (ad 0)), (1, .int x13), (2, .int x14), (4, .long x16), (6, .int x17)]) C dX3_bestRule_82 rfl (by decide) rfl ?_
      refine b_iload C 6 dX3_bestRule_83 rfl ?_
      refine b_if_eq (tgt := 96) C dX3_bestRule_85 (by decide) (fun c53 => ?_) (fun c53 => ?_)
      · have h54 := ipos h51 c53; clear h51
        refine b_lload C 1 dX3_bestRule_96 rfl ?_
        refine b_goto (tgt := 103) C dX3_bestRule_98 (by decide) ?_
        refine b_lstore (lv' := [(4, .long r27), (3, .int x15), (7, .long r27), (0, .ref (ad 0)), (1, .int x13), (2, .int x14), (6, .int x17)]) C dX3_bestRule_103 (by decide) rfl ?_
        obtain ⟨x56, ex56, h57⟩ := lt1_inv h54; clear h54
        refine b_iinc (v := x56) (lv' := [(6, .int x56), (4, .long r27), (3, .int x15), (7, .long r27), (0, .ref (ad 0)), (1, .int x13), (2, .int x14)]) C 6 dX3_bestRule_105 rfl (by rw [ex56]; rfl) (by decide) rfl ?_
        refine b_goto (tgt := 44) C dX3_bestRule_108 (by decide) ?_
        exact b_sub [4, 5, 6, 2, 1, 0] rfl (hq44 _ _ _ _ _ _ h57)
      have h55 := ineg h51 c53; clear h51
      refine b_lload C 1 dX3_bestRule_88 rfl ?_
      refine b_lload C 5 dX3_bestRule_90 rfl ?_
      refine b_lc_ge (tgt := 101) C dX3_bestRule_92 dX3_bestRule_93 (by decide) (fun c58 => ?_) (fun c58 => ?_)
      · have h59 := ipos h55 c58; clear h55
        refine b_lload C 5 dX3_bestRule_101 rfl ?_
        refine b_lstore (lv' := [(4, .long x16), (3, .int x15), (7, .long r27), (0, .ref (ad 0)), (1, .int x13), (2, .int x14), (6, .int x17)]) C dX3_bestRule_103 (by decide) rfl ?_
        obtain ⟨x61, ex61, h62⟩ := lt1_inv h59; clear h59
        refine b_iinc (v := x61) (lv' := [(6, .int x61), (4, .long x16), (3, .int x15), (7, .long r27), (0, .ref (ad 0)), (1, .int x13), (2, .int x14)]) C 6 dX3_bestRule_105 rfl (by rw [ex61]; rfl) (by decide) rfl ?_
        refine b_goto (tgt := 44) C dX3_bestRule_108 (by decide) ?_
        exact b_sub [4, 5, 6, 2, 1, 0] rfl (hq44 _ _ _ _ _ _ h62)
      have h60 := ineg h55 c58; clear h55
      refine b_lload C 1 dX3_bestRule_96 rfl ?_
      refine b_goto (tgt := 103) C dX3_bestRule_98 (by decide) ?_
      refine b_lstore (lv' := [(4, .long r27), (3, .int x15), (7, .long r27), (0, .ref (ad 0)), (1, .int x13), (2, .int x14), (6, .int x17)]) C dX3_bestRule_103 (by decide) rfl ?_
      obtain ⟨x63, ex63, h64⟩ := lt1_inv h60; clear h60
      refine b_iinc (v := x63) (lv' := [(6, .int x63), (4, .long r27), (3, .int x15), (7, .long r27), (0, .ref (ad 0)), (1, .int x13), (2, .int x14)]) C 6 dX3_bestRule_105 rfl (by rw [ex63]; rfl) (by decide) rfl ?_
      refine b_goto (tgt := 44) C dX3_bestRule_108 (by decide) ?_
      exact b_sub [4, 5, 6, 2, 1, 0] rfl (hq44 _ _ _ _ _ _ h64)
    have h52 := ineg h30 c50; clear h30
    exact b_sub [1, 2, 3, 5, 6, 0] rfl (wX3_bestRule_76 C X hr hq44 _ _ _ _ _ _ h52)
theorem ctX3_bestRule {l : Launch} {ad : Nat → Nat} {ca : Nat → ClassId} {N : Nat} {σ : St} {a1 : Int32} {rf : Int32} {σf : St} (h : fX3_bestRule N σ a1 = some (rf, σf)) : Cw l yX3_bestRule cX3_bestRule 9 (some .int) rmX3_bestRule [.ref (ad 0), .int a1] (wM ad ca) (tyM ca) σ (some (.int rf)) σf := by
  refine Cw_of (by decide) (sameM ad ca) (Nat.le_of_ble_eq_true rfl) ?_
  intro p e s m args below meth c D A C X hr
  replace C : Cb p s m args meth c RX3 cX3_bestRule 9 := C
  have h2 := h; clear h
  refine b_sub (lv' := [(0, .ref (ad 0)), (1, .int a1)]) [0, 1] rfl ?_
  refine b_iload_n C 1 dX3_bestRule_0 rfl rfl ?_
  refine b_i2l C dX3_bestRule_1 ?_
  refine b_lconst (v := (1 : Int64)) C dX3_bestRule_2 (by decide) ?_
  refine b_ldc2 (v := (10 : Int64)) C dX3_bestRule_3 kc_X3_69 ?_
  obtain ⟨r4, ec3, h3⟩ := bd0_inv h2; clear h2
  refine b_callSi (rest := []) C dX3_bestRule_6 (ctX3_within ec3) mf_X3_within ms_X3_within kl_X3_71 rfl ⟨rfl, rfl⟩ ⟨Nat.le_of_ble_eq_true rfl, Nat.le_of_ble_eq_true rfl⟩ ⟨Nat.zero_le _, Nat.zero_le _⟩ rfl (Nat.le_of_ble_eq_true rfl) ?_
  refine b_if_ne (tgt := 16) C dX3_bestRule_9 (by decide) (fun c5 => ?_) (fun c5 => ?_)
  · have h6 := ineg h3 c5; clear h3
    refine b_aload_n C 0 dX3_bestRule_16 rfl rfl ?_
    refine gX3_64 C X dX3_bestRule_17 ?_
    refine b_iload_n C 1 dX3_bestRule_20 rfl rfl ?_
    refine b_iadd C dX3_bestRule_21 ?_
    refine b_bipush (v := (60 : Int32)) C dX3_bestRule_22 (by decide) ?_
    refine b_icmp_le (tgt := 31) C dX3_bestRule_24 (by decide) (fun c8 => ?_) (fun c8 => ?_)
    · have h9 := ipos h6 c8; clear h6
      refine b_aload_n C 0 dX3_bestRule_31 rfl rfl ?_
      refine gX3_61 C X dX3_bestRule_32 ?_
      obtain ⟨x11, ex11, h12⟩ := lt1_inv h9; clear h9
      refine b_nmI ex11 ?_
      refine b_istore_n (lv' := [(2, .int x11), (0, .ref (ad 0)), (1, .int a1)]) C dX3_bestRule_35 rfl (by decide) rfl ?_
      refine b_iconst (v := (0 : Int32)) C dX3_bestRule_36 (by decide) ?_
      refine b_istore_n (lv' := [(3, .int (0 : Int32)), (2, .int x11), (0, .ref (ad 0)), (1, .int a1)]) C dX3_bestRule_37 rfl (by decide) rfl ?_
      refine b_lconst (v := (0 : Int64)) C dX3_bestRule_38 (by decide) ?_
      refine b_lstore (lv' := [(4, .long (0 : Int64)), (3, .int (0 : Int32)), (2, .int x11), (0, .ref (ad 0)), (1, .int a1)]) C dX3_bestRule_39 (by decide) rfl ?_
      refine b_iconst (v := (0 : Int32)) C dX3_bestRule_41 (by decide) ?_
      refine b_istore (lv' := [(6, .int (0 : Int32)), (4, .long (0 : Int64)), (3, .int (0 : Int32)), (2, .int x11), (0, .ref (ad 0)), (1, .int a1)]) C dX3_bestRule_42 (by decide) rfl ?_
      refine b_sub [4, 5, 3, 2, 1, 0] rfl (wX3_bestRule_44 C X hr (fun σ67 x65 x66 h68 => ?_) _ _ _ _ _ _ _ h12)
      refine b_aload_n C 0 dX3_bestRule_111 rfl rfl ?_
      refine b_iload_n C 1 dX3_bestRule_112 rfl rfl ?_
      refine pX3_61 C X dX3_bestRule_113 ?_
      obtain ⟨σ69, eσ69, h70⟩ := lt1_inv h68; clear h68
      refine b_nmS eσ69 ?_
      refine b_iload_n C 2 dX3_bestRule_116 rfl rfl ?_
      obtain ⟨rfl, rfl⟩ := so2 h70
      exact b_iret C dX3_bestRule_117 hr
    have h10 := ineg h6 c8; clear h6
    refine b_sipush (v := (-1004 : Int32)) C dX3_bestRule_27 (by decide) ?_
    obtain ⟨rfl, rfl⟩ := so2 h10
    exact b_iret C dX3_bestRule_30 hr
  have h7 := ipos h3 c5; clear h3
  refine b_sipush (v := (-1002 : Int32)) C dX3_bestRule_12 (by decide) ?_
  obtain ⟨rfl, rfl⟩ := so2 h7
  exact b_iret C dX3_bestRule_15 hr
