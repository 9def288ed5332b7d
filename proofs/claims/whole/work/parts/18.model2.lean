def rmX3_readInterval : Room := { frames := 3, cells := 0, slots := 0, locals := 74 }
def fX3_readInterval_49b (N : Nat) (q98 : St → Option (Int32 × St)) (q49 : St → Int32 → Option (Int32 × St)) (σ24 : St) (x23 : Int32) : Option (Int32 × St) :=
  if (2 : Int32) ≤ x23 then (
  q98 σ24)
  else (
  if (gI σ24 6) = (0 : Int32) then (
  q98 σ24)
  else (
  bd2 (fX3_isAt σ24 (46 : Int32)) fun r34 σ33 =>
  if ¬ (r34 = 0 ∨ r34 = 1) then none else
  lt1 (sI σ33 6 r34) fun σ37 =>
  if (gI σ37 6) = (0 : Int32) then (
  lt1 (sI σ37 5 ((gI σ37 5) + (0 : Int32))) fun σ42 =>
  lt1 (x23 + (1 : Int32)) fun x44 =>
  q49 σ42 x44)
  else (
  lt1 (sI σ37 5 ((gI σ37 5) + (1 : Int32))) fun σ46 =>
  lt1 (x23 + (1 : Int32)) fun x48 =>
  q49 σ46 x48)))
def fX3_readInterval_49 (N : Nat) (q98 : St → Option (Int32 × St)) : Nat → St → Int32 → Option (Int32 × St)
  | 0, _, _ => none
  | n + 1, σ, x23 => fX3_readInterval_49b N q98 (fX3_readInterval_49 N q98 n) σ x23
def fX3_readInterval_117 (N : Nat) (σ55 : St) : Option (Int32 × St) :=
  if (gI σ55 6) = (0 : Int32) then (
  if (gI σ55 6) = (0 : Int32) then (
  some (((-100 : Int32) - (gI σ55 5)), σ55))
  else (
  some ((0 : Int32), σ55)))
  else (
  if (gI σ55 5) = (gI σ55 4) then (
  lt1 (sI σ55 6 (1 : Int32)) fun σ71 =>
  if (gI σ71 6) = (0 : Int32) then (
  some (((-100 : Int32) - (gI σ71 5)), σ71))
  else (
  some ((0 : Int32), σ71)))
  else (
  lt1 (sI σ55 6 (0 : Int32)) fun σ66 =>
  if (gI σ66 6) = (0 : Int32) then (
  some (((-100 : Int32) - (gI σ66 5)), σ66))
  else (
  some ((0 : Int32), σ66))))
def fX3_readInterval (N : Nat) (σ : St) : Option (Int32 × St) :=
  lt1 (sI σ 5 (0 : Int32)) fun σ2 =>
  bd2 (fX3_readNumber N σ2 ((-1000 : Int64) * (gJ σ2 0))) fun r6 σ5 =>
  lt1 (sJ σ5 1 r6) fun σ7 =>
  lt1 (sJ σ7 2 (gJ σ7 1)) fun σ9 =>
  if (gI σ9 6) = (0 : Int32) then (
  if (gI σ9 6) = (0 : Int32) then (
  some (((-100 : Int32) - (gI σ9 5)), σ9))
  else (
  some ((0 : Int32), σ9)))
  else (
  if (gI σ9 4) ≤ (gI σ9 5) then (
  if (gI σ9 6) = (0 : Int32) then (
  some (((-100 : Int32) - (gI σ9 5)), σ9))
  else (
  some ((0 : Int32), σ9)))
  else (
  fX3_readInterval_49 N (fun σ50 =>
 if (gI σ50 6) = (0 : Int32) then (
  fX3_readInterval_117 N σ50)
  else (
  bd2 (fX3_readNumber N σ50 (gJ σ50 1)) fun r78 σ77 =>
  lt1 (sJ σ77 2 r78) fun σ79 =>
  fX3_readInterval_117 N σ79)) N σ9 (0 : Int32)))
theorem wX3_readInterval_49 {l : Launch} {p : Program} {e : Env} {s : State} {m : MethodId} {args : Array Value} {below : List Frame} {meth : Method} {c : Code} {D : va_G} {A : Nat → Prop} {ad : Nat → Nat} {ca : Nat → ClassId} {rf : Int32} {σf : St} (C : Cb p s m args meth c RX3 cX3_readInterval 2) (X : Cx s D A (wM ad ca) (tyM ca)) (hr : meth.sig.returnType = (some .int)) {N : Nat} {q98 : St → Option (Int32 × St)} (hq98 : ∀ (σ : St), q98 σ = some (rf, σf) → bW p l e rmX3_readInterval s m args below meth c 0 0 (MQ below (Qw D (wM ad ca) σf (some (.int rf)) A) args s 0 0 A) 2 (wd D A (wM ad ca) s σ) 98 [(0, .ref (ad 0))] []) : ∀ n : Nat, ∀ (σ : St) (y0 : Int32), fX3_readInterval_49 N q98 n σ y0 = some (rf, σf) → bW p l e rmX3_readInterval s m args below meth c 0 0 (MQ below (Qw D (wM ad ca) σf (some (.int rf)) A) args s 0 0 A) 2 (wd D A (wM ad ca) s σ) 49 [(0, .ref (ad 0)), (1, .int y0)] [] := by
  intro n
  induction n with
  | zero => intro σ24 x23 h25; exact nn h25
  | succ n hq49 =>
    intro σ24 x23 h25
    replace h25 : fX3_readInterval_49b N q98 (fX3_readInterval_49 N q98 n) σ24 x23 = some (rf, σf) := h25
    refine b_iload_n C 1 dX3_readInterval_49 rfl rfl ?_
    refine b_iconst (v := (2 : Int32)) C dX3_readInterval_50 (by decide) ?_
    refine b_icmp_ge (tgt := 98) C dX3_readInterval_51 (by decide) (fun c26 => ?_) (fun c26 => ?_)
    · have h27 := ipos h25 c26; clear h25
      exact b_sub [0] rfl (hq98 _ h27)
    have h28 := ineg h25 c26; clear h25
    refine b_aload_n C 0 dX3_readInterval_54 rfl rfl ?_
    refine gX3_91 C X dX3_readInterval_55 ?_
    refine b_if_eq (tgt := 98) C dX3_readInterval_58 (by decide) (fun c29 => ?_) (fun c29 => ?_)
    · have h30 := ipos h28 c29; clear h28
      exact b_sub [0] rfl (hq98 _ h30)
    have h31 := ineg h28 c29; clear h28
    refine b_aload_n C 0 dX3_readInterval_61 rfl rfl ?_
    refine b_aload_n C 0 dX3_readInterval_62 rfl rfl ?_
    refine b_bipush (v := (46 : Int32)) C dX3_readInterval_63 (by decide) ?_
    obtain ⟨r34, σ33, ec32, h32⟩ := bd2_inv h31; clear h31
    refine b_callWi (rest := [.ref (ad 0)]) C (sameM ad ca) X dX3_readInterval_65 (ctX3_isAt ec32) mf_X3_isAt mi_X3_isAt kl_X3_95 0 rfl rfl rfl rfl ⟨rfl, rfl⟩ ⟨Nat.le_of_ble_eq_true rfl, Nat.le_of_ble_eq_true rfl⟩ ⟨Nat.zero_le _, Nat.zero_le _⟩ rfl (Nat.le_of_ble_eq_true rfl) ?_
    obtain ⟨g36, h35⟩ := gdn h32; clear h32
    refine pX3_91 C X (Classical.not_not.mp g36) dX3_readInterval_68 ?_
    obtain ⟨σ37, eσ37, h38⟩ := lt1_inv h35; clear h35
    refine b_nmS eσ37 ?_
    refine b_aload_n C 0 dX3_readInterval_71 rfl rfl ?_
    refine b_dup C dX3_readInterval_72 rfl ?_
    refine gX3_82 C X dX3_readInterval_73 ?_
    refine b_aload_n C 0 dX3_readInterval_76 rfl rfl ?_
    refine gX3_91 C X dX3_readInterval_77 ?_
    refine b_if_eq (tgt := 87) C dX3_readInterval_80 (by decide) (fun c39 => ?_) (fun c39 => ?_)
    · have h40 := ipos h38 c39; clear h38
      refine b_iconst (v := (0 : Int32)) C dX3_readInterval_87 (by decide) ?_
      refine b_iadd C dX3_readInterval_88 ?_
      refine pX3_82 C X dX3_readInterval_89 ?_
      obtain ⟨σ42, eσ42, h43⟩ := lt1_inv h40; clear h40
      refine b_nmS eσ42 ?_
      obtain ⟨x44, ex44, h45⟩ := lt1_inv h43; clear h43
      refine b_iinc (v := x44) (lv' := [(1, .int x44), (0, .ref (ad 0))]) C 1 dX3_readInterval_92 rfl (by rw [ex44]; rfl) (by decide) rfl ?_
      refine b_goto (tgt := 49) C dX3_readInterval_95 (by decide) ?_
      exact b_sub [1, 0] rfl (hq49 _ _ h45)
    have h41 := ineg h38 c39; clear h38
    refine b_iconst (v := (1 : Int32)) C dX3_readInterval_83 (by decide) ?_
    refine b_goto (tgt := 88) C dX3_readInterval_84 (by decide) ?_
    refine b_iadd C dX3_readInterval_88 ?_
    refine pX3_82 C X dX3_readInterval_89 ?_
    obtain ⟨σ46, eσ46, h47⟩ := lt1_inv h41; clear h41
    refine b_nmS eσ46 ?_
    obtain ⟨x48, ex48, h49⟩ := lt1_inv h47; clear h47
    refine b_iinc (v := x48) (lv' := [(1, .int x48), (0, .ref (ad 0))]) C 1 dX3_readInterval_92 rfl (by rw [ex48]; rfl) (by decide) rfl ?_
    refine b_goto (tgt := 49) C dX3_readInterval_95 (by decide) ?_
    exact b_sub [1, 0] rfl (hq49 _ _ h49)
theorem wX3_readInterval_117 {l : Launch} {p : Program} {e : Env} {s : State} {m : MethodId} {args : Array Value} {below : List Frame} {meth : Method} {c : Code} {D : va_G} {A : Nat → Prop} {ad : Nat → Nat} {ca : Nat → ClassId} {rf : Int32} {σf : St} (C : Cb p s m args meth c RX3 cX3_readInterval 2) (X : Cx s D A (wM ad ca) (tyM ca)) (hr : meth.sig.returnType = (some .int)) {N : Nat} : ∀ (σ : St), fX3_readInterval_117 N σ = some (rf, σf) → bW p l e rmX3_readInterval s m args below meth c 0 0 (MQ below (Qw D (wM ad ca) σf (some (.int rf)) A) args s 0 0 A) 2 (wd D A (wM ad ca) s σ) 117 [(0, .ref (ad 0))] [] := by
  intro σ55 h56
  refine b_aload_n C 0 dX3_readInterval_117 rfl rfl ?_
  refine gX3_91 C X dX3_readInterval_118 ?_
  refine b_if_eq (tgt := 144) C dX3_readInterval_121 (by decide) (fun c57 => ?_) (fun c57 => ?_)
  · have h58 := ipos h56 c57; clear h56
    refine b_aload_n C 0 dX3_readInterval_144 rfl rfl ?_
    refine gX3_91 C X dX3_readInterval_145 ?_
    refine b_if_eq (tgt := 155) C dX3_readInterval_148 (by decide) (fun c60 => ?_) (fun c60 => ?_)
    · have h61 := ipos h58 c60; clear h58
      refine b_bipush (v := (-100 : Int32)) C dX3_readInterval_155 (by decide) ?_
      refine b_aload_n C 0 dX3_readInterval_157 rfl rfl ?_
      refine gX3_82 C X dX3_readInterval_158 ?_
      refine b_isub C dX3_readInterval_161 ?_
      obtain ⟨rfl, rfl⟩ := so2 h61
      exact b_iret C dX3_readInterval_162 hr
    have h62 := ineg h58 c60; clear h58
    refine b_iconst (v := (0 : Int32)) C dX3_readInterval_151 (by decide) ?_
    refine b_goto (tgt := 162) C dX3_readInterval_152 (by decide) ?_
    obtain ⟨rfl, rfl⟩ := so2 h62
    exact b_iret C dX3_readInterval_162 hr
  have h59 := ineg h56 c57; clear h56
  refine b_aload_n C 0 dX3_readInterval_124 rfl rfl ?_
  refine b_aload_n C 0 dX3_readInterval_125 rfl rfl ?_
  refine gX3_82 C X dX3_readInterval_126 ?_
  refine b_aload_n C 0 dX3_readInterval_129 rfl rfl ?_
  refine gX3_79 C X dX3_readInterval_130 ?_
  refine b_icmp_ne (tgt := 140) C dX3_readInterval_133 (by decide) (fun c63 => ?_) (fun c63 => ?_)
  · have h64 := ineg h59 c63; clear h59
    refine b_iconst (v := (0 : Int32)) C dX3_readInterval_140 (by decide) ?_
    refine pX3_91 C X (Or.inl rfl) dX3_readInterval_141 ?_
    obtain ⟨σ66, eσ66, h67⟩ := lt1_inv h64; clear h64
    refine b_nmS eσ66 ?_
    refine b_aload_n C 0 dX3_readInterval_144 rfl rfl ?_
    refine gX3_91 C X dX3_readInterval_145 ?_
    refine b_if_eq (tgt := 155) C dX3_readInterval_148 (by decide) (fun c68 => ?_) (fun c68 => ?_)
    · have h69 := ipos h67 c68; clear h67
      refine b_bipush (v := (-100 : Int32)) C dX3_readInterval_155 (by decide) ?_
      refine b_aload_n C 0 dX3_readInterval_157 rfl rfl ?_
      refine gX3_82 C X dX3_readInterval_158 ?_
      refine b_isub C dX3_readInterval_161 ?_
      obtain ⟨rfl, rfl⟩ := so2 h69
      exact b_iret C dX3_readInterval_162 hr
    have h70 := ineg h67 c68; clear h67
    refine b_iconst (v := (0 : Int32)) C dX3_readInterval_151 (by decide) ?_
    refine b_goto (tgt := 162) C dX3_readInterval_152 (by decide) ?_
    obtain ⟨rfl, rfl⟩ := so2 h70
    exact b_iret C dX3_readInterval_162 hr
  have h65 := ipos h59 c63; clear h59
  refine b_iconst (v := (1 : Int32)) C dX3_readInterval_136 (by decide) ?_
  refine b_goto (tgt := 141) C dX3_readInterval_137 (by decide) ?_
  refine pX3_91 C X (Or.inr rfl) dX3_readInterval_141 ?_
  obtain ⟨σ71, eσ71, h72⟩ := lt1_inv h65; clear h65
  refine b_nmS eσ71 ?_
  refine b_aload_n C 0 dX3_readInterval_144 rfl rfl ?_
  refine gX3_91 C X dX3_readInterval_145 ?_
  refine b_if_eq (tgt := 155) C dX3_readInterval_148 (by decide) (fun c73 => ?_) (fun c73 => ?_)
  · have h74 := ipos h72 c73; clear h72
    refine b_bipush (v := (-100 : Int32)) C dX3_readInterval_155 (by decide) ?_
    refine b_aload_n C 0 dX3_readInterval_157 rfl rfl ?_
    refine gX3_82 C X dX3_readInterval_158 ?_
    refine b_isub C dX3_readInterval_161 ?_
    obtain ⟨rfl, rfl⟩ := so2 h74
    exact b_iret C dX3_readInterval_162 hr
  have h75 := ineg h72 c73; clear h72
  refine b_iconst (v := (0 : Int32)) C dX3_readInterval_151 (by decide) ?_
  refine b_goto (tgt := 162) C dX3_readInterval_152 (by decide) ?_
  obtain ⟨rfl, rfl⟩ := so2 h75
  exact b_iret C dX3_readInterval_162 hr
theorem ctX3_readInterval {l : Launch} {ad : Nat → Nat} {ca : Nat → ClassId} {N : Nat} {σ : St} {rf : Int32} {σf : St} (h : fX3_readInterval N σ = some (rf, σf)) : Cw l yX3_readInterval cX3_readInterval 2 (some .int) rmX3_readInterval [.ref (ad 0)] (wM ad ca) (tyM ca) σ (some (.int rf)) σf := by
  refine Cw_of (by decide) (sameM ad ca) (Nat.le_of_ble_eq_true rfl) ?_
  intro p e s m args below meth c D A C X hr
  replace C : Cb p s m args meth c RX3 cX3_readInterval 2 := C
  have h1 := h; clear h
  refine b_sub (lv' := [(0, .ref (ad 0))]) [0] rfl ?_
  refine b_aload_n C 0 dX3_readInterval_0 rfl rfl ?_
  refine b_iconst (v := (0 : Int32)) C dX3_readInterval_1 (by decide) ?_
  refine pX3_82 C X dX3_readInterval_2 ?_
  obtain ⟨σ2, eσ2, h3⟩ := lt1_inv h1; clear h1
  refine b_nmS eσ2 ?_
  refine b_aload_n C 0 dX3_readInterval_5 rfl rfl ?_
  refine b_aload_n C 0 dX3_readInterval_6 rfl rfl ?_
  refine b_ldc2 (v := (-1000 : Int64)) C dX3_readInterval_7 kc_X3_105 ?_
  refine b_aload_n C 0 dX3_readInterval_10 rfl rfl ?_
  refine gX3_57 C X dX3_readInterval_11 ?_
  refine b_lmul C dX3_readInterval_14 ?_
  obtain ⟨r6, σ5, ec4, h4⟩ := bd2_inv h3; clear h3
  refine b_callWl (rest := [.ref (ad 0)]) C (sameM ad ca) X dX3_readInterval_15 (ctX3_readNumber ec4) mf_X3_readNumber mi_X3_readNumber kl_X3_107 0 rfl rfl rfl rfl ⟨rfl, rfl⟩ ⟨Nat.le_of_ble_eq_true rfl, Nat.le_of_ble_eq_true rfl⟩ ⟨Nat.zero_le _, Nat.zero_le _⟩ rfl (Nat.le_of_ble_eq_true rfl) ?_
  refine pX3_111 C X dX3_readInterval_18 ?_
  obtain ⟨σ7, eσ7, h8⟩ := lt1_inv h4; clear h4
  refine b_nmS eσ7 ?_
  refine b_aload_n C 0 dX3_readInterval_21 rfl rfl ?_
  refine b_aload_n C 0 dX3_readInterval_22 rfl rfl ?_
  refine gX3_111 C X dX3_readInterval_23 ?_
  refine pX3_114 C X dX3_readInterval_26 ?_
  obtain ⟨σ9, eσ9, h10⟩ := lt1_inv h8; clear h8
  refine b_nmS eσ9 ?_
  refine b_aload_n C 0 dX3_readInterval_29 rfl rfl ?_
  refine gX3_91 C X dX3_readInterval_30 ?_
  refine b_if_eq (tgt := 144) C dX3_readInterval_33 (by decide) (fun c11 => ?_) (fun c11 => ?_)
  · have h12 := ipos h10 c11; clear h10
    refine b_aload_n C 0 dX3_readInterval_144 rfl rfl ?_
    refine gX3_91 C X dX3_readInterval_145 ?_
    refine b_if_eq (tgt := 155) C dX3_readInterval_148 (by decide) (fun c14 => ?_) (fun c14 => ?_)
    · have h15 := ipos h12 c14; clear h12
      refine b_bipush (v := (-100 : Int32)) C dX3_readInterval_155 (by decide) ?_
      refine b_aload_n C 0 dX3_readInterval_157 rfl rfl ?_
      refine gX3_82 C X dX3_readInterval_158 ?_
      refine b_isub C dX3_readInterval_161 ?_
      obtain ⟨rfl, rfl⟩ := so2 h15
      exact b_iret C dX3_readInterval_162 hr
    have h16 := ineg h12 c14; clear h12
    refine b_iconst (v := (0 : Int32)) C dX3_readInterval_151 (by decide) ?_
    refine b_goto (tgt := 162) C dX3_readInterval_152 (by decide) ?_
    obtain ⟨rfl, rfl⟩ := so2 h16
    exact b_iret C dX3_readInterval_162 hr
  have h13 := ineg h10 c11; clear h10
  refine b_aload_n C 0 dX3_readInterval_36 rfl rfl ?_
  refine gX3_82 C X dX3_readInterval_37 ?_
  refine b_aload_n C 0 dX3_readInterval_40 rfl rfl ?_
  refine gX3_79 C X dX3_readInterval_41 ?_
  refine b_icmp_ge (tgt := 144) C dX3_readInterval_44 (by decide) (fun c17 => ?_) (fun c17 => ?_)
  · have h18 := ipos h13 c17; clear h13
    refine b_aload_n C 0 dX3_readInterval_144 rfl rfl ?_
    refine gX3_91 C X dX3_readInterval_145 ?_
    refine b_if_eq (tgt := 155) C dX3_readInterval_148 (by decide) (fun c20 => ?_) (fun c20 => ?_)
    · have h21 := ipos h18 c20; clear h18
      refine b_bipush (v := (-100 : Int32)) C dX3_readInterval_155 (by decide) ?_
      refine b_aload_n C 0 dX3_readInterval_157 rfl rfl ?_
      refine gX3_82 C X dX3_readInterval_158 ?_
      refine b_isub C dX3_readInterval_161 ?_
      obtain ⟨rfl, rfl⟩ := so2 h21
      exact b_iret C dX3_readInterval_162 hr
    have h22 := ineg h18 c20; clear h18
    refine b_iconst (v := (0 : Int32)) C dX3_readInterval_151 (by decide) ?_
    refine b_goto (tgt := 162) C dX3_readInterval_152 (by decide) ?_
    obtain ⟨rfl, rfl⟩ := so2 h22
    exact b_iret C dX3_readInterval_162 hr
  have h19 := ineg h13 c17; clear h13
  refine b_iconst (v := (0 : Int32)) C dX3_readInterval_47 (by decide) ?_
  refine b_istore_n (lv' := [(1, .int (0 : Int32)), (0, .ref (ad 0))]) C dX3_readInterval_48 rfl (by decide) rfl ?_
  refine b_sub [1, 0] rfl (wX3_readInterval_49 C X hr (fun σ50 h51 => ?_) _ _ _ h19)
  refine b_aload_n C 0 dX3_readInterval_98 rfl rfl ?_
  refine gX3_91 C X dX3_readInterval_99 ?_
  refine b_if_eq (tgt := 117) C dX3_readInterval_102 (by decide) (fun c52 => ?_) (fun c52 => ?_)
  · have h53 := ipos h51 c52; clear h51
    exact b_sub [0] rfl (wX3_readInterval_117 C X hr _ h53)
  have h54 := ineg h51 c52; clear h51
  refine b_aload_n C 0 dX3_readInterval_105 rfl rfl ?_
  refine b_aload_n C 0 dX3_readInterval_106 rfl rfl ?_
  refine b_aload_n C 0 dX3_readInterval_107 rfl rfl ?_
  refine gX3_111 C X dX3_readInterval_108 ?_
  obtain ⟨r78, σ77, ec76, h76⟩ := bd2_inv h54; clear h54
  refine b_callWl (rest := [.ref (ad 0)]) C (sameM ad ca) X dX3_readInterval_111 (ctX3_readNumber ec76) mf_X3_readNumber mi_X3_readNumber kl_X3_107 0 rfl rfl rfl rfl ⟨rfl, rfl⟩ ⟨Nat.le_of_ble_eq_true rfl, Nat.le_of_ble_eq_true rfl⟩ ⟨Nat.zero_le _, Nat.zero_le _⟩ rfl (Nat.le_of_ble_eq_true rfl) ?_
  refine pX3_114 C X dX3_readInterval_114 ?_
  obtain ⟨σ79, eσ79, h80⟩ := lt1_inv h76; clear h76
  refine b_nmS eσ79 ?_
  exact b_sub [0] rfl (wX3_readInterval_117 C X hr _ h80)
def rmX3_readInput : Room := { frames := 4, cells := 0, slots := 0, locals := 95 }
def fX3_readInput (N : Nat) (σ : St) (a1 : Int32) : Option (Int32 × St) :=
  bd2 (fX3_noNode σ a1) fun r5 σ4 =>
  if r5 = (0 : Int32) then (
  if (gI σ4 3) ≤ (0 : Int32) then (
  bd2 (fX3_readInterval N σ4) fun r14 σ13 =>
  if (0 : Int32) ≤ r14 then (
  if (((2 : Int32) * a1) < 0 ∨ 20 ≤ (((2 : Int32) * a1)).toNatClampNeg) then none else
  lt1 (sG σ13 0 (vp_updL (gG σ13 0) (((2 : Int32) * a1)).toNatClampNeg (gJ σ13 1))) fun σ20 =>
  if ((((2 : Int32) * a1) + (1 : Int32)) < 0 ∨ 20 ≤ ((((2 : Int32) * a1) + (1 : Int32))).toNatClampNeg) then none else
  lt1 (sG σ20 0 (vp_updL (gG σ20 0) ((((2 : Int32) * a1) + (1 : Int32))).toNatClampNeg (gJ σ20 2))) fun σ24 =>
  if (((2 : Int32) * a1) < 0 ∨ 1220 ≤ (((2 : Int32) * a1)).toNatClampNeg) then none else
  lt1 (sG σ24 4 (vp_updL (gG σ24 4) (((2 : Int32) * a1)).toNatClampNeg (gJ σ24 1))) fun σ28 =>
  if ((((2 : Int32) * a1) + (1 : Int32)) < 0 ∨ 1220 ≤ ((((2 : Int32) * a1) + (1 : Int32))).toNatClampNeg) then none else
  lt1 (sG σ28 4 (vp_updL (gG σ28 4) ((((2 : Int32) * a1) + (1 : Int32))).toNatClampNeg (gJ σ28 2))) fun σ32 =>
  some ((1 : Int32), σ32))
  else (
  some (r14, σ13)))
  else (
  some ((-1003 : Int32), σ4)))
  else (
  some ((-1001 : Int32), σ4))
theorem ctX3_readInput {l : Launch} {ad : Nat → Nat} {ca : Nat → ClassId} {N : Nat} {σ : St} {a1 : Int32} {rf : Int32} {σf : St} (h : fX3_readInput N σ a1 = some (rf, σf)) : Cw l yX3_readInput cX3_readInput 3 (some .int) rmX3_readInput [.ref (ad 0), .int a1] (wM ad ca) (tyM ca) σ (some (.int rf)) σf := by
  refine Cw_of (by decide) (sameM ad ca) (Nat.le_of_ble_eq_true rfl) ?_
  intro p e s m args below meth c D A C X hr
  replace C : Cb p s m args meth c RX3 cX3_readInput 3 := C
  have h2 := h; clear h
  refine b_sub (lv' := [(0, .ref (ad 0)), (1, .int a1)]) [0, 1] rfl ?_
  refine b_aload_n C 0 dX3_readInput_0 rfl rfl ?_
  refine b_iload_n C 1 dX3_readInput_1 rfl rfl ?_
  obtain ⟨r5, σ4, ec3, h3⟩ := bd2_inv h2; clear h2
  refine b_callWi (rest := []) C (sameM ad ca) X dX3_readInput_2 (ctX3_noNode ec3) mf_X3_noNode mi_X3_noNode kl_X3_117 0 rfl rfl rfl rfl ⟨rfl, rfl⟩ ⟨Nat.le_of_ble_eq_true rfl, Nat.le_of_ble_eq_true rfl⟩ ⟨Nat.zero_le _, Nat.zero_le _⟩ rfl (Nat.le_of_ble_eq_true rfl) ?_
  refine b_if_eq (tgt := 12) C dX3_readInput_5 (by decide) (fun c6 => ?_) (fun c6 => ?_)
  · have h7 := ipos h3 c6; clear h3
    refine b_aload_n C 0 dX3_readInput_12 rfl rfl ?_
    refine gX3_64 C X dX3_readInput_13 ?_
    refine b_if_le (tgt := 23) C dX3_readInput_16 (by decide) (fun c9 => ?_) (fun c9 => ?_)
    · have h10 := ipos h7 c9; clear h7
      refine b_aload_n C 0 dX3_readInput_23 rfl rfl ?_
      obtain ⟨r14, σ13, ec12, h12⟩ := bd2_inv h10; clear h10
      refine b_callWi (rest := []) C (sameM ad ca) X dX3_readInput_24 (ctX3_readInterval ec12) mf_X3_readInterval mi_X3_readInterval kl_X3_121 0 rfl rfl rfl rfl ⟨rfl, rfl⟩ ⟨Nat.le_of_ble_eq_true rfl, Nat.le_of_ble_eq_true rfl⟩ ⟨Nat.zero_le _, Nat.zero_le _⟩ rfl (Nat.le_of_ble_eq_true rfl) ?_
      refine b_istore_n (lv' := [(2, .int r14), (0, .ref (ad 0)), (1, .int a1)]) C dX3_readInput_27 rfl (by decide) rfl ?_
      refine b_iload_n C 0 dX3_readInput_28 rfl rfl ?_
      refine b_if_ge (tgt := 34) C dX3_readInput_29 (by decide) (fun c15 => ?_) (fun c15 => ?_)
      · have h16 := ipos h12 c15; clear h12
        refine b_aload_n C 1 dX3_readInput_34 rfl rfl ?_
        refine gX3_7 C X dX3_readInput_35 ?_
        refine b_iconst (v := (2 : Int32)) C dX3_readInput_38 (by decide) ?_
        refine b_iload_n C 2 dX3_readInput_39 rfl rfl ?_
        refine b_imul C dX3_readInput_40 ?_
        refine b_aload_n C 1 dX3_readInput_41 rfl rfl ?_
        refine gX3_111 C X dX3_readInput_42 ?_
        obtain ⟨g19, h18⟩ := gdn h16; clear h16
        refine aM_1 C X g19 dX3_readInput_45 ?_
        obtain ⟨σ20, eσ20, h21⟩ := lt1_inv h18; clear h18
        refine b_nmS eσ20 ?_
        refine b_aload_n C 1 dX3_readInput_46 rfl rfl ?_
        refine gX3_7 C X dX3_readInput_47 ?_
        refine b_iconst (v := (2 : Int32)) C dX3_readInput_50 (by decide) ?_
        refine b_iload_n C 2 dX3_readInput_51 rfl rfl ?_
        refine b_imul C dX3_readInput_52 ?_
        refine b_iconst (v := (1 : Int32)) C dX3_readInput_53 (by decide) ?_
        refine b_iadd C dX3_readInput_54 ?_
        refine b_aload_n C 1 dX3_readInput_55 rfl rfl ?_
        refine gX3_114 C X dX3_readInput_56 ?_
        obtain ⟨g23, h22⟩ := gdn h21; clear h21
        refine aM_1 C X g23 dX3_readInput_59 ?_
        obtain ⟨σ24, eσ24, h25⟩ := lt1_inv h22; clear h22
        refine b_nmS eσ24 ?_
        refine b_aload_n C 1 dX3_readInput_60 rfl rfl ?_
        refine gX3_29 C X dX3_readInput_61 ?_
        refine b_iconst (v := (2 : Int32)) C dX3_readInput_64 (by decide) ?_
        refine b_iload_n C 2 dX3_readInput_65 rfl rfl ?_
        refine b_imul C dX3_readInput_66 ?_
        refine b_aload_n C 1 dX3_readInput_67 rfl rfl ?_
        refine gX3_111 C X dX3_readInput_68 ?_
        obtain ⟨g27, h26⟩ := gdn h25; clear h25
        refine aM_7 C X g27 dX3_readInput_71 ?_
        obtain ⟨σ28, eσ28, h29⟩ := lt1_inv h26; clear h26
        refine b_nmS eσ28 ?_
        refine b_aload_n C 1 dX3_readInput_72 rfl rfl ?_
        refine gX3_29 C X dX3_readInput_73 ?_
        refine b_iconst (v := (2 : Int32)) C dX3_readInput_76 (by decide) ?_
        refine b_iload_n C 2 dX3_readInput_77 rfl rfl ?_
        refine b_imul C dX3_readInput_78 ?_
        refine b_iconst (v := (1 : Int32)) C dX3_readInput_79 (by decide) ?_
        refine b_iadd C dX3_readInput_80 ?_
        refine b_aload_n C 1 dX3_readInput_81 rfl rfl ?_
        refine gX3_114 C X dX3_readInput_82 ?_
        obtain ⟨g31, h30⟩ := gdn h29; clear h29
        refine aM_7 C X g31 dX3_readInput_85 ?_
        obtain ⟨σ32, eσ32, h33⟩ := lt1_inv h30; clear h30
        refine b_nmS eσ32 ?_
        refine b_iconst (v := (1 : Int32)) C dX3_readInput_86 (by decide) ?_
        obtain ⟨rfl, rfl⟩ := so2 h33
        exact b_iret C dX3_readInput_87 hr
      have h17 := ineg h12 c15; clear h12
      refine b_iload_n C 0 dX3_readInput_32 rfl rfl ?_
      obtain ⟨rfl, rfl⟩ := so2 h17
      exact b_iret C dX3_readInput_33 hr
    have h11 := ineg h7 c9; clear h7
    refine b_sipush (v := (-1003 : Int32)) C dX3_readInput_19 (by decide) ?_
    obtain ⟨rfl, rfl⟩ := so2 h11
    exact b_iret C dX3_readInput_22 hr
  have h8 := ineg h3 c6; clear h3
  refine b_sipush (v := (-1001 : Int32)) C dX3_readInput_8 (by decide) ?_
  obtain ⟨rfl, rfl⟩ := so2 h8
  exact b_iret C dX3_readInput_11 hr
def rmX3_noPair : Room := { frames := 2, cells := 0, slots := 0, locals := 46 }
def fX3_noPair (σ : St) (a1 : Int32) (a2 : Int32) : Option (Int32 × St) :=
  bd2 (fX3_noNode σ a1) fun r6 σ5 =>
  if r6 = (0 : Int32) then (
  bd2 (fX3_noNode σ5 a2) fun r12 σ11 =>
  if r12 = (0 : Int32) then (
  if a1 = a2 then (
  some ((1 : Int32), σ11))
  else (
  some ((0 : Int32), σ11)))
  else (
  some ((1 : Int32), σ11)))
  else (
  some ((1 : Int32), σ5))
theorem ctX3_noPair {l : Launch} {ad : Nat → Nat} {ca : Nat → ClassId} {σ : St} {a1 : Int32} {a2 : Int32} {rf : Int32} {σf : St} (h : fX3_noPair σ a1 a2 = some (rf, σf)) : Cw l yX3_noPair cX3_noPair 3 (some .boolean) rmX3_noPair [.ref (ad 0), .int a1, .int a2] (wM ad ca) (tyM ca) σ (some (.int rf)) σf := by
  refine Cw_of (by decide) (sameM ad ca) (Nat.le_of_ble_eq_true rfl) ?_
  intro p e s m args below meth c D A C X hr
  replace C : Cb p s m args meth c RX3 cX3_noPair 3 := C
  have h3 := h; clear h
  refine b_sub (lv' := [(0, .ref (ad 0)), (1, .int a1), (2, .int a2)]) [0, 1, 2] rfl ?_
  refine b_aload_n C 0 dX3_noPair_0 rfl rfl ?_
  refine b_iload_n C 1 dX3_noPair_1 rfl rfl ?_
  obtain ⟨r6, σ5, ec4, h4⟩ := bd2_inv h3; clear h3
  refine b_callWi (rest := []) C (sameM ad ca) X dX3_noPair_2 (ctX3_noNode ec4) mf_X3_noNode mi_X3_noNode kl_X3_117 0 rfl rfl rfl rfl ⟨rfl, rfl⟩ ⟨Nat.le_of_ble_eq_true rfl, Nat.le_of_ble_eq_true rfl⟩ ⟨Nat.zero_le _, Nat.zero_le _⟩ rfl (Nat.le_of_ble_eq_true rfl) ?_
  refine b_if_ne (tgt := 21) C dX3_noPair_5 (by decide) (fun c7 => ?_) (fun c7 => ?_)
  · have h8 := ineg h4 c7; clear h4
    refine b_iconst (v := (1 : Int32)) C dX3_noPair_21 (by decide) ?_
    refine b_goto (tgt := 26) C dX3_noPair_22 (by decide) ?_
    obtain ⟨rfl, rfl⟩ := so2 h8
    exact b_zret C dX3_noPair_26 hr rfl
  have h9 := ipos h4 c7; clear h4
  refine b_aload_n C 0 dX3_noPair_8 rfl rfl ?_
  refine b_iload_n C 2 dX3_noPair_9 rfl rfl ?_
  obtain ⟨r12, σ11, ec10, h10⟩ := bd2_inv h9; clear h9
  refine b_callWi (rest := []) C (sameM ad ca) X dX3_noPair_10 (ctX3_noNode ec10) mf_X3_noNode mi_X3_noNode kl_X3_117 0 rfl rfl rfl rfl ⟨rfl, rfl⟩ ⟨Nat.le_of_ble_eq_true rfl, Nat.le_of_ble_eq_true rfl⟩ ⟨Nat.zero_le _, Nat.zero_le _⟩ rfl (Nat.le_of_ble_eq_true rfl) ?_
  refine b_if_ne (tgt := 21) C dX3_noPair_13 (by decide) (fun c13 => ?_) (fun c13 => ?_)
  · have h14 := ineg h10 c13; clear h10
    refine b_iconst (v := (1 : Int32)) C dX3_noPair_21 (by decide) ?_
    refine b_goto (tgt := 26) C dX3_noPair_22 (by decide) ?_
    obtain ⟨rfl, rfl⟩ := so2 h14
    exact b_zret C dX3_noPair_26 hr rfl
  have h15 := ipos h10 c13; clear h10
  refine b_iload_n C 1 dX3_noPair_16 rfl rfl ?_
  refine b_iload_n C 2 dX3_noPair_17 rfl rfl ?_
  refine b_icmp_ne (tgt := 25) C dX3_noPair_18 (by decide) (fun c16 => ?_) (fun c16 => ?_)
  · have h17 := ineg h15 c16; clear h15
    refine b_iconst (v := (0 : Int32)) C dX3_noPair_25 (by decide) ?_
    obtain ⟨rfl, rfl⟩ := so2 h17
    exact b_zret C dX3_noPair_26 hr rfl
  have h18 := ipos h15 c16; clear h15
  refine b_iconst (v := (1 : Int32)) C dX3_noPair_21 (by decide) ?_
  refine b_goto (tgt := 26) C dX3_noPair_22 (by decide) ?_
  obtain ⟨rfl, rfl⟩ := so2 h18
  exact b_zret C dX3_noPair_26 hr rfl
def rmX3_readLie : Room := { frames := 4, cells := 0, slots := 0, locals := 95 }
def fX3_readLie (N : Nat) (σ : St) (a1 : Int32) (a2 : Int32) : Option (Int32 × St) :=
  bd2 (fX3_noPair σ a1 a2) fun r6 σ5 =>
  if r6 = (0 : Int32) then (
  bd2 (fX3_readInterval N σ5) fun r12 σ11 =>
  if (0 : Int32) ≤ r12 then (
  if ((((10 : Int32) * a1) + a2) < 0 ∨ 100 ≤ ((((10 : Int32) * a1) + a2)).toNatClampNeg) then none else
  lt1 (sG σ11 2 (vp_updL (gG σ11 2) ((((10 : Int32) * a1) + a2)).toNatClampNeg (gJ σ11 1))) fun σ18 =>
  if ((((10 : Int32) * a1) + a2) < 0 ∨ 100 ≤ ((((10 : Int32) * a1) + a2)).toNatClampNeg) then none else
  lt1 (sG σ18 3 (vp_updL (gG σ18 3) ((((10 : Int32) * a1) + a2)).toNatClampNeg (gJ σ18 2))) fun σ22 =>
  some ((1 : Int32), σ22))
  else (
  some (r12, σ11)))
  else (
  some ((-1001 : Int32), σ5))
theorem ctX3_readLie {l : Launch} {ad : Nat → Nat} {ca : Nat → ClassId} {N : Nat} {σ : St} {a1 : Int32} {a2 : Int32} {rf : Int32} {σf : St} (h : fX3_readLie N σ a1 a2 = some (rf, σf)) : Cw l yX3_readLie cX3_readLie 4 (some .int) rmX3_readLie [.ref (ad 0), .int a1, .int a2] (wM ad ca) (tyM ca) σ (some (.int rf)) σf := by
  refine Cw_of (by decide) (sameM ad ca) (Nat.le_of_ble_eq_true rfl) ?_
  intro p e s m args below meth c D A C X hr
  replace C : Cb p s m args meth c RX3 cX3_readLie 4 := C
  have h3 := h; clear h
  refine b_sub (lv' := [(0, .ref (ad 0)), (1, .int a1), (2, .int a2)]) [0, 1, 2] rfl ?_
  refine b_aload_n C 0 dX3_readLie_0 rfl rfl ?_
  refine b_iload_n C 1 dX3_readLie_1 rfl rfl ?_
  refine b_iload_n C 2 dX3_readLie_2 rfl rfl ?_
  obtain ⟨r6, σ5, ec4, h4⟩ := bd2_inv h3; clear h3
  refine b_callWi (rest := []) C (sameM ad ca) X dX3_readLie_3 (ctX3_noPair ec4) mf_X3_noPair mi_X3_noPair kl_X3_125 0 rfl rfl rfl rfl ⟨rfl, rfl⟩ ⟨Nat.le_of_ble_eq_true rfl, Nat.le_of_ble_eq_true rfl⟩ ⟨Nat.zero_le _, Nat.zero_le _⟩ rfl (Nat.le_of_ble_eq_true rfl) ?_
  refine b_if_eq (tgt := 13) C dX3_readLie_6 (by decide) (fun c7 => ?_) (fun c7 => ?_)
  · have h8 := ipos h4 c7; clear h4
    refine b_aload_n C 0 dX3_readLie_13 rfl rfl ?_
    obtain ⟨r12, σ11, ec10, h10⟩ := bd2_inv h8; clear h8
    refine b_callWi (rest := []) C (sameM ad ca) X dX3_readLie_14 (ctX3_readInterval ec10) mf_X3_readInterval mi_X3_readInterval kl_X3_121 0 rfl rfl rfl rfl ⟨rfl, rfl⟩ ⟨Nat.le_of_ble_eq_true rfl, Nat.le_of_ble_eq_true rfl⟩ ⟨Nat.zero_le _, Nat.zero_le _⟩ rfl (Nat.le_of_ble_eq_true rfl) ?_
    refine b_istore_n (lv' := [(3, .int r12), (0, .ref (ad 0)), (1, .int a1), (2, .int a2)]) C dX3_readLie_17 rfl (by decide) rfl ?_
    refine b_iload_n C 0 dX3_readLie_18 rfl rfl ?_
    refine b_if_ge (tgt := 24) C dX3_readLie_19 (by decide) (fun c13 => ?_) (fun c13 => ?_)
    · have h14 := ipos h10 c13; clear h10
      refine b_aload_n C 1 dX3_readLie_24 rfl rfl ?_
      refine gX3_20 C X dX3_readLie_25 ?_
      refine b_bipush (v := (10 : Int32)) C dX3_readLie_28 (by decide) ?_
      refine b_iload_n C 2 dX3_readLie_30 rfl rfl ?_
      refine b_imul C dX3_readLie_31 ?_
      refine b_iload_n C 3 dX3_readLie_32 rfl rfl ?_
      refine b_iadd C dX3_readLie_33 ?_
      refine b_aload_n C 1 dX3_readLie_34 rfl rfl ?_
      refine gX3_111 C X dX3_readLie_35 ?_
      obtain ⟨g17, h16⟩ := gdn h14; clear h14
      refine aM_4 C X g17 dX3_readLie_38 ?_
      obtain ⟨σ18, eσ18, h19⟩ := lt1_inv h16; clear h16
      refine b_nmS eσ18 ?_
      refine b_aload_n C 1 dX3_readLie_39 rfl rfl ?_
      refine gX3_23 C X dX3_readLie_40 ?_
      refine b_bipush (v := (10 : Int32)) C dX3_readLie_43 (by decide) ?_
      refine b_iload_n C 2 dX3_readLie_45 rfl rfl ?_
      refine b_imul C dX3_readLie_46 ?_
      refine b_iload_n C 3 dX3_readLie_47 rfl rfl ?_
      refine b_iadd C dX3_readLie_48 ?_
      refine b_aload_n C 1 dX3_readLie_49 rfl rfl ?_
      refine gX3_114 C X dX3_readLie_50 ?_
      obtain ⟨g21, h20⟩ := gdn h19; clear h19
      refine aM_5 C X g21 dX3_readLie_53 ?_
      obtain ⟨σ22, eσ22, h23⟩ := lt1_inv h20; clear h20
      refine b_nmS eσ22 ?_
      refine b_iconst (v := (1 : Int32)) C dX3_readLie_54 (by decide) ?_
      obtain ⟨rfl, rfl⟩ := so2 h23
      exact b_iret C dX3_readLie_55 hr
    have h15 := ineg h10 c13; clear h10
    refine b_iload_n C 0 dX3_readLie_22 rfl rfl ?_
    obtain ⟨rfl, rfl⟩ := so2 h15
    exact b_iret C dX3_readLie_23 hr
  have h9 := ineg h4 c7; clear h4
  refine b_sipush (v := (-1001 : Int32)) C dX3_readLie_9 (by decide) ?_
  obtain ⟨rfl, rfl⟩ := so2 h9
  exact b_iret C dX3_readLie_12 hr
def rmX3_setFaulty : Room := { frames := 2, cells := 0, slots := 0, locals := 46 }
def fX3_setFaulty (σ : St) (a1 : Int32) (a2 : Int32) (a3 : Int32) (a4 : Int32) : Option (Int32 × St) :=
  bd2 (fX3_noNode σ a1) fun r8 σ7 =>
  if r8 = (0 : Int32) then (
  bd0 (fX3_within (a2.toInt64) (1 : Int64) (5 : Int64)) fun r13 =>
  if r13 = (0 : Int32) then (
  some ((-1002 : Int32), σ7))
  else (
  bd0 (fX3_within (a3.toInt64) (-1000 : Int64) (1000 : Int64)) fun r18 =>
  if r18 = (0 : Int32) then (
  some ((-1002 : Int32), σ7))
  else (
  bd0 (fX3_within (a4.toInt64) (1 : Int64) (1000 : Int64)) fun r23 =>
  if r23 = (0 : Int32) then (
  some ((-1002 : Int32), σ7))
  else (
  if (a4.toInt64) = (0 : Int64) then none else
  if (((a3.toInt64) * (gJ σ7 0)) - ((a3.toInt64) * (gJ σ7 0)) / (a4.toInt64) * (a4.toInt64)) = (0 : Int64) then (
  if (gI σ7 3) ≤ (0 : Int32) then (
  if (a1 < 0 ∨ 10 ≤ (a1).toNatClampNeg) then none else
  lt1 (gF σ7 0 (a1).toNatClampNeg) fun x37 =>
  if (a1 < 0 ∨ 10 ≤ (a1).toNatClampNeg) then none else
  lt1 (sF σ7 0 (upd (gF σ7 0) (a1).toNatClampNeg a2)) fun σ41 =>
  if (a4.toInt64) = (0 : Int64) then none else
  if (a1 < 0 ∨ 10 ≤ (a1).toNatClampNeg) then none else
  lt1 (sG σ41 1 (vp_updL (gG σ41 1) (a1).toNatClampNeg (((a3.toInt64) * (gJ σ41 0)) / (a4.toInt64)))) fun σ47 =>
  some (x37, σ47))
  else (
  some ((-1003 : Int32), σ7)))
  else (
  some ((-1002 : Int32), σ7))))))
  else (
  some ((-1001 : Int32), σ7))
theorem ctX3_setFaulty {l : Launch} {ad : Nat → Nat} {ca : Nat → ClassId} {σ : St} {a1 : Int32} {a2 : Int32} {a3 : Int32} {a4 : Int32} {rf : Int32} {σf : St} (h : fX3_setFaulty σ a1 a2 a3 a4 = some (rf, σf)) : Cw l yX3_setFaulty cX3_setFaulty 6 (some .int) rmX3_setFaulty [.ref (ad 0), .int a1, .int a2, .int a3, .int a4] (wM ad ca) (tyM ca) σ (some (.int rf)) σf := by
  refine Cw_of (by decide) (sameM ad ca) (Nat.le_of_ble_eq_true rfl) ?_
  intro p e s m args below meth c D A C X hr
  replace C : Cb p s m args meth c RX3 cX3_setFaulty 6 := C
  have h5 := h; clear h
  refine b_sub (lv' := [(0, .ref (ad 0)), (1, .int a1), (2, .int a2), (3, .int a3), (4, .int a4)]) [0, 1, 2, 3, 4] rfl ?_
  refine b_aload_n C 0 dX3_setFaulty_0 rfl rfl ?_
  refine b_iload_n C 1 dX3_setFaulty_1 rfl rfl ?_
  obtain ⟨r8, σ7, ec6, h6⟩ := bd2_inv h5; clear h5
  refine b_callWi (rest := []) C (sameM ad ca) X dX3_setFaulty_2 (ctX3_noNode ec6) mf_X3_noNode mi_X3_noNode kl_X3_117 0 rfl rfl rfl rfl ⟨rfl, rfl⟩ ⟨Nat.le_of_ble_eq_true rfl, Nat.le_of_ble_eq_true rfl⟩ ⟨Nat.zero_le _, Nat.zero_le _⟩ rfl (Nat.le_of_ble_eq_true rfl) ?_
  refine b_if_eq (tgt := 12) C dX3_setFaulty_5 (by decide) (fun c9 => ?_) (fun c9 => ?_)
  · have h10 := ipos h6 c9; clear h6
    refine b_iload_n C 2 dX3_setFaulty_12 rfl rfl ?_
    refine b_i2l C dX3_setFaulty_13 ?_
    refine b_lconst (v := (1 : Int64)) C dX3_setFaulty_14 (by decide) ?_
    refine b_ldc2 (v := (5 : Int64)) C dX3_setFaulty_15 kc_X3_129 ?_
    obtain ⟨r13, ec12, h12⟩ := bd0_inv h10; clear h10
    refine b_callSi (rest := []) C dX3_setFaulty_18 (ctX3_within ec12) mf_X3_within ms_X3_within kl_X3_71 rfl ⟨rfl, rfl⟩ ⟨Nat.le_of_ble_eq_true rfl, Nat.le_of_ble_eq_true rfl⟩ ⟨Nat.zero_le _, Nat.zero_le _⟩ rfl (Nat.le_of_ble_eq_true rfl) ?_
    refine b_if_eq (tgt := 67) C dX3_setFaulty_21 (by decide) (fun c14 => ?_) (fun c14 => ?_)
    · have h15 := ipos h12 c14; clear h12
      refine b_sipush (v := (-1002 : Int32)) C dX3_setFaulty_67 (by decide) ?_
      obtain ⟨rfl, rfl⟩ := so2 h15
      exact b_iret C dX3_setFaulty_70 hr
    have h16 := ineg h12 c14; clear h12
    refine b_iload_n C 3 dX3_setFaulty_24 rfl rfl ?_
    refine b_i2l C dX3_setFaulty_25 ?_
    refine b_ldc2 (v := (-1000 : Int64)) C dX3_setFaulty_26 kc_X3_105 ?_
    refine b_ldc2 (v := (1000 : Int64)) C dX3_setFaulty_29 kc_X3_103 ?_
    obtain ⟨r18, ec17, h17⟩ := bd0_inv h16; clear h16
    refine b_callSi (rest := []) C dX3_setFaulty_32 (ctX3_within ec17) mf_X3_within ms_X3_within kl_X3_71 rfl ⟨rfl, rfl⟩ ⟨Nat.le_of_ble_eq_true rfl, Nat.le_of_ble_eq_true rfl⟩ ⟨Nat.zero_le _, Nat.zero_le _⟩ rfl (Nat.le_of_ble_eq_true rfl) ?_
    refine b_if_eq (tgt := 67) C dX3_setFaulty_35 (by decide) (fun c19 => ?_) (fun c19 => ?_)
    · have h20 := ipos h17 c19; clear h17
      refine b_sipush (v := (-1002 : Int32)) C dX3_setFaulty_67 (by decide) ?_
      obtain ⟨rfl, rfl⟩ := so2 h20
      exact b_iret C dX3_setFaulty_70 hr
    have h21 := ineg h17 c19; clear h17
    refine b_iload C 4 dX3_setFaulty_38 rfl ?_
    refine b_i2l C dX3_setFaulty_40 ?_
    refine b_lconst (v := (1 : Int64)) C dX3_setFaulty_41 (by decide) ?_
    refine b_ldc2 (v := (1000 : Int64)) C dX3_setFaulty_42 kc_X3_103 ?_
    obtain ⟨r23, ec22, h22⟩ := bd0_inv h21; clear h21
    refine b_callSi (rest := []) C dX3_setFaulty_45 (ctX3_within ec22) mf_X3_within ms_X3_within kl_X3_71 rfl ⟨rfl, rfl⟩ ⟨Nat.le_of_ble_eq_true rfl, Nat.le_of_ble_eq_true rfl⟩ ⟨Nat.zero_le _, Nat.zero_le _⟩ rfl (Nat.le_of_ble_eq_true rfl) ?_
    refine b_if_eq (tgt := 67) C dX3_setFaulty_48 (by decide) (fun c24 => ?_) (fun c24 => ?_)
    · have h25 := ipos h22 c24; clear h22
      refine b_sipush (v := (-1002 : Int32)) C dX3_setFaulty_67 (by decide) ?_
      obtain ⟨rfl, rfl⟩ := so2 h25
      exact b_iret C dX3_setFaulty_70 hr
    have h26 := ineg h22 c24; clear h22
    refine b_iload_n C 3 dX3_setFaulty_51 rfl rfl ?_
    refine b_i2l C dX3_setFaulty_52 ?_
    refine b_aload_n C 0 dX3_setFaulty_53 rfl rfl ?_
    refine gX3_57 C X dX3_setFaulty_54 ?_
    refine b_lmul C dX3_setFaulty_57 ?_
    refine b_iload C 4 dX3_setFaulty_58 rfl ?_
    refine b_i2l C dX3_setFaulty_60 ?_
    obtain ⟨g28, h27⟩ := gdn h26; clear h26
    refine b_lrem C dX3_setFaulty_61 g28 ?_
    refine b_lconst (v := (0 : Int64)) C dX3_setFaulty_62 (by decide) ?_
    refine b_lc_eq (tgt := 71) C dX3_setFaulty_63 dX3_setFaulty_64 (by decide) (fun c29 => ?_) (fun c29 => ?_)
    · have h30 := ipos h27 c29; clear h27
      refine b_aload_n C 0 dX3_setFaulty_71 rfl rfl ?_
      refine gX3_64 C X dX3_setFaulty_72 ?_
      refine b_if_le (tgt := 82) C dX3_setFaulty_75 (by decide) (fun c32 => ?_) (fun c32 => ?_)
      · have h33 := ipos h30 c32; clear h30
        refine b_aload_n C 0 dX3_setFaulty_82 rfl rfl ?_
        refine gX3_13 C X dX3_setFaulty_83 ?_
        refine b_iload_n C 1 dX3_setFaulty_86 rfl rfl ?_
        obtain ⟨g36, h35⟩ := gdn h33; clear h33
        refine lM_2 C X g36 dX3_setFaulty_87 ?_
        obtain ⟨x37, ex37, h38⟩ := lt1_inv h35; clear h35
        refine b_nmI ex37 ?_
        refine b_istore (lv' := [(5, .int x37), (0, .ref (ad 0)), (1, .int a1), (2, .int a2), (3, .int a3), (4, .int a4)]) C dX3_setFaulty_88 (by decide) rfl ?_
        refine b_aload_n C 1 dX3_setFaulty_90 rfl rfl ?_
        refine gX3_13 C X dX3_setFaulty_91 ?_
        refine b_iload_n C 2 dX3_setFaulty_94 rfl rfl ?_
        refine b_iload_n C 3 dX3_setFaulty_95 rfl rfl ?_
        obtain ⟨g40, h39⟩ := gdn h38; clear h38
        refine aM_2 C X g40 dX3_setFaulty_96 ?_
        obtain ⟨σ41, eσ41, h42⟩ := lt1_inv h39; clear h39
        refine b_nmS eσ41 ?_
        refine b_aload_n C 1 dX3_setFaulty_97 rfl rfl ?_
        refine gX3_17 C X dX3_setFaulty_98 ?_
        refine b_iload_n C 2 dX3_setFaulty_101 rfl rfl ?_
        refine b_iload_n C 4 dX3_setFaulty_102 rfl rfl ?_
        refine b_i2l C dX3_setFaulty_103 ?_
        refine b_aload_n C 1 dX3_setFaulty_104 rfl rfl ?_
        refine gX3_57 C X dX3_setFaulty_105 ?_
        refine b_lmul C dX3_setFaulty_108 ?_
        refine b_iload C 5 dX3_setFaulty_109 rfl ?_
        refine b_i2l C dX3_setFaulty_111 ?_
        obtain ⟨g44, h43⟩ := gdn h42; clear h42
        refine b_ldiv C dX3_setFaulty_112 g44 ?_
        obtain ⟨g46, h45⟩ := gdn h43; clear h43
        refine aM_3 C X g46 dX3_setFaulty_113 ?_
        obtain ⟨σ47, eσ47, h48⟩ := lt1_inv h45; clear h45
        refine b_nmS eσ47 ?_
        refine b_iload C 0 dX3_setFaulty_114 rfl ?_
        obtain ⟨rfl, rfl⟩ := so2 h48
        exact b_iret C dX3_setFaulty_116 hr
      have h34 := ineg h30 c32; clear h30
      refine b_sipush (v := (-1003 : Int32)) C dX3_setFaulty_78 (by decide) ?_
      obtain ⟨rfl, rfl⟩ := so2 h34
      exact b_iret C dX3_setFaulty_81 hr
    have h31 := ineg h27 c29; clear h27
    refine b_sipush (v := (-1002 : Int32)) C dX3_setFaulty_67 (by decide) ?_
    obtain ⟨rfl, rfl⟩ := so2 h31
    exact b_iret C dX3_setFaulty_70 hr
  have h11 := ineg h6 c9; clear h6
  refine b_sipush (v := (-1001 : Int32)) C dX3_setFaulty_8 (by decide) ?_
  obtain ⟨rfl, rfl⟩ := so2 h11
  exact b_iret C dX3_setFaulty_11 hr
def rmX3_setCorrect : Room := { frames := 2, cells := 0, slots := 0, locals := 46 }
def fX3_setCorrect (σ : St) (a1 : Int32) : Option (Int32 × St) :=
  bd2 (fX3_noNode σ a1) fun r5 σ4 =>
  if r5 = (0 : Int32) then (
  if (gI σ4 3) ≤ (0 : Int32) then (
  if (a1 < 0 ∨ 10 ≤ (a1).toNatClampNeg) then none else
  lt1 (gF σ4 0 (a1).toNatClampNeg) fun x14 =>
  if (a1 < 0 ∨ 10 ≤ (a1).toNatClampNeg) then none else
  lt1 (sF σ4 0 (upd (gF σ4 0) (a1).toNatClampNeg (0 : Int32))) fun σ18 =>
  some (x14, σ18))
  else (
  some ((-1003 : Int32), σ4)))
  else (
  some ((-1001 : Int32), σ4))
theorem ctX3_setCorrect {l : Launch} {ad : Nat → Nat} {ca : Nat → ClassId} {σ : St} {a1 : Int32} {rf : Int32} {σf : St} (h : fX3_setCorrect σ a1 = some (rf, σf)) : Cw l yX3_setCorrect cX3_setCorrect 3 (some .int) rmX3_setCorrect [.ref (ad 0), .int a1] (wM ad ca) (tyM ca) σ (some (.int rf)) σf := by
  refine Cw_of (by decide) (sameM ad ca) (Nat.le_of_ble_eq_true rfl) ?_
  intro p e s m args below meth c D A C X hr
  replace C : Cb p s m args meth c RX3 cX3_setCorrect 3 := C
  have h2 := h; clear h
  refine b_sub (lv' := [(0, .ref (ad 0)), (1, .int a1)]) [0, 1] rfl ?_
  refine b_aload_n C 0 dX3_setCorrect_0 rfl rfl ?_
  refine b_iload_n C 1 dX3_setCorrect_1 rfl rfl ?_
  obtain ⟨r5, σ4, ec3, h3⟩ := bd2_inv h2; clear h2
  refine b_callWi (rest := []) C (sameM ad ca) X dX3_setCorrect_2 (ctX3_noNode ec3) mf_X3_noNode mi_X3_noNode kl_X3_117 0 rfl rfl rfl rfl ⟨rfl, rfl⟩ ⟨Nat.le_of_ble_eq_true rfl, Nat.le_of_ble_eq_true rfl⟩ ⟨Nat.zero_le _, Nat.zero_le _⟩ rfl (Nat.le_of_ble_eq_true rfl) ?_
  refine b_if_eq (tgt := 12) C dX3_setCorrect_5 (by decide) (fun c6 => ?_) (fun c6 => ?_)
  · have h7 := ipos h3 c6; clear h3
    refine b_aload_n C 0 dX3_setCorrect_12 rfl rfl ?_
    refine gX3_64 C X dX3_setCorrect_13 ?_
    refine b_if_le (tgt := 23) C dX3_setCorrect_16 (by decide) (fun c9 => ?_) (fun c9 => ?_)
    · have h10 := ipos h7 c9; clear h7
      refine b_aload_n C 0 dX3_setCorrect_23 rfl rfl ?_
      refine gX3_13 C X dX3_setCorrect_24 ?_
      refine b_iload_n C 1 dX3_setCorrect_27 rfl rfl ?_
      obtain ⟨g13, h12⟩ := gdn h10; clear h10
      refine lM_2 C X g13 dX3_setCorrect_28 ?_
      obtain ⟨x14, ex14, h15⟩ := lt1_inv h12; clear h12
      refine b_nmI ex14 ?_
      refine b_istore_n (lv' := [(2, .int x14), (0, .ref (ad 0)), (1, .int a1)]) C dX3_setCorrect_29 rfl (by decide) rfl ?_
      refine b_aload_n C 1 dX3_setCorrect_30 rfl rfl ?_
      refine gX3_13 C X dX3_setCorrect_31 ?_
      refine b_iload_n C 2 dX3_setCorrect_34 rfl rfl ?_
      refine b_iconst (v := (0 : Int32)) C dX3_setCorrect_35 (by decide) ?_
      obtain ⟨g17, h16⟩ := gdn h15; clear h15
      refine aM_2 C X g17 dX3_setCorrect_36 ?_
      obtain ⟨σ18, eσ18, h19⟩ := lt1_inv h16; clear h16
      refine b_nmS eσ18 ?_
      refine b_iload_n C 0 dX3_setCorrect_37 rfl rfl ?_
      obtain ⟨rfl, rfl⟩ := so2 h19
      exact b_iret C dX3_setCorrect_38 hr
    have h11 := ineg h7 c9; clear h7
    refine b_sipush (v := (-1003 : Int32)) C dX3_setCorrect_19 (by decide) ?_
    obtain ⟨rfl, rfl⟩ := so2 h11
    exact b_iret C dX3_setCorrect_22 hr
  have h8 := ineg h3 c6; clear h3
  refine b_sipush (v := (-1001 : Int32)) C dX3_setCorrect_8 (by decide) ?_
  obtain ⟨rfl, rfl⟩ := so2 h8
  exact b_iret C dX3_setCorrect_11 hr
def rmX3_setLink : Room := { frames := 3, cells := 0, slots := 0, locals := 68 }
def fX3_setLink (σ : St) (a1 : Int32) (a2 : Int32) (a3 : Int32) : Option (Int32 × St) :=
  bd2 (fX3_noPair σ a1 a2) fun r7 σ6 =>
  if r7 = (0 : Int32) then (
  bd0 (fX3_within (a3.toInt64) (-1 : Int64) (3 : Int64)) fun r12 =>
  if r12 = (0 : Int32) then (
  some ((-1002 : Int32), σ6))
  else (
  if ((((10 : Int32) * a1) + a2) < 0 ∨ 100 ≤ ((((10 : Int32) * a1) + a2)).toNatClampNeg) then none else
  lt1 (gF σ6 1 ((((10 : Int32) * a1) + a2)).toNatClampNeg) fun x18 =>
  if ((((10 : Int32) * a1) + a2) < 0 ∨ 100 ≤ ((((10 : Int32) * a1) + a2)).toNatClampNeg) then none else
  lt1 (sF σ6 1 (upd (gF σ6 1) ((((10 : Int32) * a1) + a2)).toNatClampNeg a3)) fun σ22 =>
  some (x18, σ22)))
  else (
  some ((-1001 : Int32), σ6))
theorem ctX3_setLink {l : Launch} {ad : Nat → Nat} {ca : Nat → ClassId} {σ : St} {a1 : Int32} {a2 : Int32} {a3 : Int32} {rf : Int32} {σf : St} (h : fX3_setLink σ a1 a2 a3 = some (rf, σf)) : Cw l yX3_setLink cX3_setLink 5 (some .int) rmX3_setLink [.ref (ad 0), .int a1, .int a2, .int a3] (wM ad ca) (tyM ca) σ (some (.int rf)) σf := by
  refine Cw_of (by decide) (sameM ad ca) (Nat.le_of_ble_eq_true rfl) ?_
  intro p e s m args below meth c D A C X hr
  replace C : Cb p s m args meth c RX3 cX3_setLink 5 := C
  have h4 := h; clear h
  refine b_sub (lv' := [(0, .ref (ad 0)), (1, .int a1), (2, .int a2), (3, .int a3)]) [0, 1, 2, 3] rfl ?_
  refine b_aload_n C 0 dX3_setLink_0 rfl rfl ?_
  refine b_iload_n C 1 dX3_setLink_1 rfl rfl ?_
  refine b_iload_n C 2 dX3_setLink_2 rfl rfl ?_
  obtain ⟨r7, σ6, ec5, h5⟩ := bd2_inv h4; clear h4
  refine b_callWi (rest := []) C (sameM ad ca) X dX3_setLink_3 (ctX3_noPair ec5) mf_X3_noPair mi_X3_noPair kl_X3_125 0 rfl rfl rfl rfl ⟨rfl, rfl⟩ ⟨Nat.le_of_ble_eq_true rfl, Nat.le_of_ble_eq_true rfl⟩ ⟨Nat.zero_le _, Nat.zero_le _⟩ rfl (Nat.le_of_ble_eq_true rfl) ?_
  refine b_if_eq (tgt := 13) C dX3_setLink_6 (by decide) (fun c8 => ?_) (fun c8 => ?_)
  · have h9 := ipos h5 c8; clear h5
    refine b_iload_n C 3 dX3_setLink_13 rfl rfl ?_
    refine b_i2l C dX3_setLink_14 ?_
    refine b_ldc2 (v := (-1 : Int64)) C dX3_setLink_15 kc_X3_131 ?_
    refine b_ldc2 (v := (3 : Int64)) C dX3_setLink_18 kc_X3_75 ?_
    obtain ⟨r12, ec11, h11⟩ := bd0_inv h9; clear h9
    refine b_callSi (rest := []) C dX3_setLink_21 (ctX3_within ec11) mf_X3_within ms_X3_within kl_X3_71 rfl ⟨rfl, rfl⟩ ⟨Nat.le_of_ble_eq_true rfl, Nat.le_of_ble_eq_true rfl⟩ ⟨Nat.zero_le _, Nat.zero_le _⟩ rfl (Nat.le_of_ble_eq_true rfl) ?_
    refine b_if_ne (tgt := 31) C dX3_setLink_24 (by decide) (fun c13 => ?_) (fun c13 => ?_)
    · have h14 := ineg h11 c13; clear h11
      refine b_aload_n C 0 dX3_setLink_31 rfl rfl ?_
      refine gX3_26 C X dX3_setLink_32 ?_
      refine b_bipush (v := (10 : Int32)) C dX3_setLink_35 (by decide) ?_
      refine b_iload_n C 1 dX3_setLink_37 rfl rfl ?_
      refine b_imul C dX3_setLink_38 ?_
      refine b_iload_n C 2 dX3_setLink_39 rfl rfl ?_
      refine b_iadd C dX3_setLink_40 ?_
      obtain ⟨g17, h16⟩ := gdn h14; clear h14
      refine lM_6 C X g17 dX3_setLink_41 ?_
      obtain ⟨x18, ex18, h19⟩ := lt1_inv h16; clear h16
      refine b_nmI ex18 ?_
      refine b_istore (lv' := [(4, .int x18), (0, .ref (ad 0)), (1, .int a1), (2, .int a2), (3, .int a3)]) C dX3_setLink_42 (by decide) rfl ?_
      refine b_aload_n C 1 dX3_setLink_44 rfl rfl ?_
      refine gX3_26 C X dX3_setLink_45 ?_
      refine b_bipush (v := (10 : Int32)) C dX3_setLink_48 (by decide) ?_
      refine b_iload_n C 2 dX3_setLink_50 rfl rfl ?_
      refine b_imul C dX3_setLink_51 ?_
      refine b_iload_n C 3 dX3_setLink_52 rfl rfl ?_
      refine b_iadd C dX3_setLink_53 ?_
      refine b_iload_n C 4 dX3_setLink_54 rfl rfl ?_
      obtain ⟨g21, h20⟩ := gdn h19; clear h19
      refine aM_6 C X g21 dX3_setLink_55 ?_
      obtain ⟨σ22, eσ22, h23⟩ := lt1_inv h20; clear h20
      refine b_nmS eσ22 ?_
      refine b_iload C 0 dX3_setLink_56 rfl ?_
      obtain ⟨rfl, rfl⟩ := so2 h23
      exact b_iret C dX3_setLink_58 hr
    have h15 := ipos h11 c13; clear h11
    refine b_sipush (v := (-1002 : Int32)) C dX3_setLink_27 (by decide) ?_
    obtain ⟨rfl, rfl⟩ := so2 h15
    exact b_iret C dX3_setLink_30 hr
  have h10 := ineg h5 c8; clear h5
  refine b_sipush (v := (-1001 : Int32)) C dX3_setLink_9 (by decide) ?_
  obtain ⟨rfl, rfl⟩ := so2 h10
  exact b_iret C dX3_setLink_12 hr
def rmX3_setRule : Room := { frames := 1, cells := 0, slots := 0, locals := 25 }
def fX3_setRule (σ : St) (a1 : Int32) : Option (Int32 × St) :=
  bd0 (fX3_within (a1.toInt64) (0 : Int64) (3 : Int64)) fun r4 =>
  if r4 = (0 : Int32) then (
  some ((-1002 : Int32), σ))
  else (
  lt1 (gI σ 2) fun x8 =>
  lt1 (sI σ 2 a1) fun σ10 =>
  some (x8, σ10))
theorem ctX3_setRule {l : Launch} {ad : Nat → Nat} {ca : Nat → ClassId} {σ : St} {a1 : Int32} {rf : Int32} {σf : St} (h : fX3_setRule σ a1 = some (rf, σf)) : Cw l yX3_setRule cX3_setRule 3 (some .int) rmX3_setRule [.ref (ad 0), .int a1] (wM ad ca) (tyM ca) σ (some (.int rf)) σf := by
  refine Cw_of (by decide) (sameM ad ca) (Nat.le_of_ble_eq_true rfl) ?_
  intro p e s m args below meth c D A C X hr
  replace C : Cb p s m args meth c RX3 cX3_setRule 3 := C
  have h2 := h; clear h
  refine b_sub (lv' := [(0, .ref (ad 0)), (1, .int a1)]) [0, 1] rfl ?_
  refine b_iload_n C 1 dX3_setRule_0 rfl rfl ?_
  refine b_i2l C dX3_setRule_1 ?_
  refine b_lconst (v := (0 : Int64)) C dX3_setRule_2 (by decide) ?_
  refine b_ldc2 (v := (3 : Int64)) C dX3_setRule_3 kc_X3_75 ?_
  obtain ⟨r4, ec3, h3⟩ := bd0_inv h2; clear h2
  refine b_callSi (rest := []) C dX3_setRule_6 (ctX3_within ec3) mf_X3_within ms_X3_within kl_X3_71 rfl ⟨rfl, rfl⟩ ⟨Nat.le_of_ble_eq_true rfl, Nat.le_of_ble_eq_true rfl⟩ ⟨Nat.zero_le _, Nat.zero_le _⟩ rfl (Nat.le_of_ble_eq_true rfl) ?_
  refine b_if_ne (tgt := 16) C dX3_setRule_9 (by decide) (fun c5 => ?_) (fun c5 => ?_)
  · have h6 := ineg h3 c5; clear h3
    refine b_aload_n C 0 dX3_setRule_16 rfl rfl ?_
    refine gX3_61 C X dX3_setRule_17 ?_
    obtain ⟨x8, ex8, h9⟩ := lt1_inv h6; clear h6
    refine b_nmI ex8 ?_
    refine b_istore_n (lv' := [(2, .int x8), (0, .ref (ad 0)), (1, .int a1)]) C dX3_setRule_20 rfl (by decide) rfl ?_
    refine b_aload_n C 1 dX3_setRule_21 rfl rfl ?_
    refine b_iload_n C 2 dX3_setRule_22 rfl rfl ?_
    refine pX3_61 C X dX3_setRule_23 ?_
    obtain ⟨σ10, eσ10, h11⟩ := lt1_inv h9; clear h9
    refine b_nmS eσ10 ?_
    refine b_iload_n C 0 dX3_setRule_26 rfl rfl ?_
    obtain ⟨rfl, rfl⟩ := so2 h11
    exact b_iret C dX3_setRule_27 hr
  have h7 := ipos h3 c5; clear h3
  refine b_sipush (v := (-1002 : Int32)) C dX3_setRule_12 (by decide) ?_
  obtain ⟨rfl, rfl⟩ := so2 h7
  exact b_iret C dX3_setRule_15 hr
def rmX3_faulty : Room := { frames := 1, cells := 0, slots := 0, locals := 21 }
def fX3_faulty_4b (N : Nat) (q34 : St → Int32 → Option (Int32 × St)) (q4 : St → Int32 → Int32 → Option (Int32 × St)) (σ4 : St) (x2 : Int32) (x3 : Int32) : Option (Int32 × St) :=
  if (gI σ4 0) ≤ x3 then (
  q34 σ4 x2)
  else (
  bd2 (fX3_isCorrect σ4 x3) fun r11 σ10 =>
  if r11 = (0 : Int32) then (
  lt1 (x2 + (1 : Int32)) fun x15 =>
  lt1 (x3 + (1 : Int32)) fun x17 =>
  q4 σ10 x15 x17)
  else (
  lt1 (x2 + (0 : Int32)) fun x19 =>
  lt1 (x3 + (1 : Int32)) fun x21 =>
  q4 σ10 x19 x21))
def fX3_faulty_4 (N : Nat) (q34 : St → Int32 → Option (Int32 × St)) : Nat → St → Int32 → Int32 → Option (Int32 × St)
  | 0, _, _, _ => none
  | n + 1, σ, x2, x3 => fX3_faulty_4b N q34 (fX3_faulty_4 N q34 n) σ x2 x3
def fX3_faulty (N : Nat) (σ : St) : Option (Int32 × St) :=
  fX3_faulty_4 N (fun σ24 x23 =>
 some (x23, σ24)) N σ (0 : Int32) (0 : Int32)
theorem wX3_faulty_4 {l : Launch} {p : Program} {e : Env} {s : State} {m : MethodId} {args : Array Value} {below : List Frame} {meth : Method} {c : Code} {D : va_G} {A : Nat → Prop} {ad : Nat → Nat} {ca : Nat → ClassId} {rf : Int32} {σf : St} (C : Cb p s m args meth c RX3 cX3_faulty 3) (X : Cx s D A (wM ad ca) (tyM ca)) (hr : meth.sig.returnType = (some .int)) {N : Nat} {q34 : St → Int32 → Option (Int32 × St)} (hq34 : ∀ (σ : St) (y0 : Int32), q34 σ y0 = some (rf, σf) → bW p l e rmX3_faulty s m args below meth c 0 0 (MQ below (Qw D (wM ad ca) σf (some (.int rf)) A) args s 0 0 A) 3 (wd D A (wM ad ca) s σ) 34 [(1, .int y0)] []) : ∀ n : Nat, ∀ (σ : St) (y0 : Int32) (y1 : Int32), fX3_faulty_4 N q34 n σ y0 y1 = some (rf, σf) → bW p l e rmX3_faulty s m args below meth c 0 0 (MQ below (Qw D (wM ad ca) σf (some (.int rf)) A) args s 0 0 A) 3 (wd D A (wM ad ca) s σ) 4 [(0, .ref (ad 0)), (1, .int y0), (2, .int y1)] [] := by
  intro n
  induction n with
  | zero => intro σ4 x2 x3 h5; exact nn h5
  | succ n hq4 =>
    intro σ4 x2 x3 h5
    replace h5 : fX3_faulty_4b N q34 (fX3_faulty_4 N q34 n) σ4 x2 x3 = some (rf, σf) := h5
    refine b_iload_n C 2 dX3_faulty_4 rfl rfl ?_
    refine b_aload_n C 0 dX3_faulty_5 rfl rfl ?_
    refine gX3_50 C X dX3_faulty_6 ?_
    refine b_icmp_ge (tgt := 34) C dX3_faulty_9 (by decide) (fun c6 => ?_) (fun c6 => ?_)
    · have h7 := ipos h5 c6; clear h5
      exact b_sub [1] rfl (hq34 _ _ h7)
    have h8 := ineg h5 c6; clear h5
    refine b_iload_n C 1 dX3_faulty_12 rfl rfl ?_
    refine b_aload_n C 0 dX3_faulty_13 rfl rfl ?_
    refine b_iload_n C 2 dX3_faulty_14 rfl rfl ?_
    obtain ⟨r11, σ10, ec9, h9⟩ := bd2_inv h8; clear h8
    refine b_callWi (rest := [.int x2]) C (sameM ad ca) X dX3_faulty_15 (ctX3_isCorrect ec9) mf_X3_isCorrect mi_X3_isCorrect kl_X3_133 0 rfl rfl rfl rfl ⟨rfl, rfl⟩ ⟨Nat.le_of_ble_eq_true rfl, Nat.le_of_ble_eq_true rfl⟩ ⟨Nat.zero_le _, Nat.zero_le _⟩ rfl (Nat.le_of_ble_eq_true rfl) ?_
    refine b_if_eq (tgt := 25) C dX3_faulty_18 (by decide) (fun c12 => ?_) (fun c12 => ?_)
    · have h13 := ipos h9 c12; clear h9
      refine b_iconst (v := (1 : Int32)) C dX3_faulty_25 (by decide) ?_
      refine b_iadd C dX3_faulty_26 ?_
      obtain ⟨x15, ex15, h16⟩ := lt1_inv h13; clear h13
      refine b_nmI ex15 ?_
      refine b_istore_n (lv' := [(1, .int x15), (0, .ref (ad 0)), (2, .int x3)]) C dX3_faulty_27 rfl (by decide) rfl ?_
      obtain ⟨x17, ex17, h18⟩ := lt1_inv h16; clear h16
      refine b_iinc (v := x17) (lv' := [(2, .int x17), (1, .int x15), (0, .ref (ad 0))]) C 2 dX3_faulty_28 rfl (by rw [ex17]; rfl) (by decide) rfl ?_
      refine b_goto (tgt := 4) C dX3_faulty_31 (by decide) ?_
      exact b_sub [2, 1, 0] rfl (hq4 _ _ _ h18)
    have h14 := ineg h9 c12; clear h9
    refine b_iconst (v := (0 : Int32)) C dX3_faulty_21 (by decide) ?_
    refine b_goto (tgt := 26) C dX3_faulty_22 (by decide) ?_
    refine b_iadd C dX3_faulty_26 ?_
    obtain ⟨x19, ex19, h20⟩ := lt1_inv h14; clear h14
    refine b_nmI ex19 ?_
    refine b_istore_n (lv' := [(1, .int x19), (0, .ref (ad 0)), (2, .int x3)]) C dX3_faulty_27 rfl (by decide) rfl ?_
    obtain ⟨x21, ex21, h22⟩ := lt1_inv h20; clear h20
    refine b_iinc (v := x21) (lv' := [(2, .int x21), (1, .int x19), (0, .ref (ad 0))]) C 2 dX3_faulty_28 rfl (by rw [ex21]; rfl) (by decide) rfl ?_
    refine b_goto (tgt := 4) C dX3_faulty_31 (by decide) ?_
    exact b_sub [2, 1, 0] rfl (hq4 _ _ _ h22)
theorem ctX3_faulty {l : Launch} {ad : Nat → Nat} {ca : Nat → ClassId} {N : Nat} {σ : St} {rf : Int32} {σf : St} (h : fX3_faulty N σ = some (rf, σf)) : Cw l yX3_faulty cX3_faulty 3 (some .int) rmX3_faulty [.ref (ad 0)] (wM ad ca) (tyM ca) σ (some (.int rf)) σf := by
  refine Cw_of (by decide) (sameM ad ca) (Nat.le_of_ble_eq_true rfl) ?_
  intro p e s m args below meth c D A C X hr
  replace C : Cb p s m args meth c RX3 cX3_faulty 3 := C
  have h1 := h; clear h
  refine b_sub (lv' := [(0, .ref (ad 0))]) [0] rfl ?_
  refine b_iconst (v := (0 : Int32)) C dX3_faulty_0 (by decide) ?_
  refine b_istore_n (lv' := [(1, .int (0 : Int32)), (0, .ref (ad 0))]) C dX3_faulty_1 rfl (by decide) rfl ?_
  refine b_iconst (v := (0 : Int32)) C dX3_faulty_2 (by decide) ?_
  refine b_istore_n (lv' := [(2, .int (0 : Int32)), (1, .int (0 : Int32)), (0, .ref (ad 0))]) C dX3_faulty_3 rfl (by decide) rfl ?_
  refine b_sub [2, 1, 0] rfl (wX3_faulty_4 C X hr (fun σ24 x23 h25 => ?_) _ _ _ _ h1)
  refine b_iload_n C 0 dX3_faulty_34 rfl rfl ?_
  obtain ⟨rfl, rfl⟩ := so2 h25
  exact b_iret C dX3_faulty_35 hr
def rmX3_links : Room := { frames := 0, cells := 0, slots := 0, locals := 0 }
def fX3_links_14b (N : Nat) (q55 : St → Int32 → Int32 → Option (Int32 × St)) (q14 : St → Int32 → Int32 → Int32 → Option (Int32 × St)) (σ12 : St) (x9 : Int32) (x10 : Int32) (x11 : Int32) : Option (Int32 × St) :=
  if (gI σ12 0) ≤ x11 then (
  q55 σ12 x9 x10)
  else (
  if x10 = x11 then (
  lt1 (x9 + (0 : Int32)) fun x20 =>
  lt1 (x11 + (1 : Int32)) fun x22 =>
  q14 σ12 x20 x10 x22)
  else (
  if ((((10 : Int32) * x10) + x11) < 0 ∨ 100 ≤ ((((10 : Int32) * x10) + x11)).toNatClampNeg) then none else
  if (gF σ12 1 ((((10 : Int32) * x10) + x11)).toNatClampNeg) < (0 : Int32) then (
  lt1 (x9 + (0 : Int32)) fun x29 =>
  lt1 (x11 + (1 : Int32)) fun x31 =>
  q14 σ12 x29 x10 x31)
  else (
  lt1 (x9 + (1 : Int32)) fun x33 =>
  lt1 (x11 + (1 : Int32)) fun x35 =>
  q14 σ12 x33 x10 x35)))
def fX3_links_14 (N : Nat) (q55 : St → Int32 → Int32 → Option (Int32 × St)) : Nat → St → Int32 → Int32 → Int32 → Option (Int32 × St)
  | 0, _, _, _, _ => none
  | n + 1, σ, x9, x10, x11 => fX3_links_14b N q55 (fX3_links_14 N q55 n) σ x9 x10 x11
def fX3_links_4b (N : Nat) (q61 : St → Int32 → Option (Int32 × St)) (q4 : St → Int32 → Int32 → Option (Int32 × St)) (σ4 : St) (x2 : Int32) (x3 : Int32) : Option (Int32 × St) :=
  if (gI σ4 0) ≤ x3 then (
  q61 σ4 x2)
  else (
  fX3_links_14 N (fun σ39 x37 x38 =>
 lt1 (x38 + (1 : Int32)) fun x41 =>
  q4 σ39 x37 x41) N σ4 x2 x3 (0 : Int32))
def fX3_links_4 (N : Nat) (q61 : St → Int32 → Option (Int32 × St)) : Nat → St → Int32 → Int32 → Option (Int32 × St)
  | 0, _, _, _ => none
  | n + 1, σ, x2, x3 => fX3_links_4b N q61 (fX3_links_4 N q61 n) σ x2 x3
def fX3_links (N : Nat) (σ : St) : Option (Int32 × St) :=
  fX3_links_4 N (fun σ44 x43 =>
 some (x43, σ44)) N σ (0 : Int32) (0 : Int32)
theorem wX3_links_14 {l : Launch} {p : Program} {e : Env} {s : State} {m : MethodId} {args : Array Value} {below : List Frame} {meth : Method} {c : Code} {D : va_G} {A : Nat → Prop} {ad : Nat → Nat} {ca : Nat → ClassId} {rf : Int32} {σf : St} (C : Cb p s m args meth c RX3 cX3_links 4) (X : Cx s D A (wM ad ca) (tyM ca)) (hr : meth.sig.returnType = (some .int)) {N : Nat} {q55 : St → Int32 → Int32 → Option (Int32 × St)} (hq55 : ∀ (σ : St) (y0 : Int32) (y1 : Int32), q55 σ y0 y1 = some (rf, σf) → bW p l e rmX3_links s m args below meth c 0 0 (MQ below (Qw D (wM ad ca) σf (some (.int rf)) A) args s 0 0 A) 4 (wd D A (wM ad ca) s σ) 55 [(0, .ref (ad 0)), (1, .int y0), (2, .int y1)] []) : ∀ n : Nat, ∀ (σ : St) (y0 : Int32) (y1 : Int32) (y2 : Int32), fX3_links_14 N q55 n σ y0 y1 y2 = some (rf, σf) → bW p l e rmX3_links s m args below meth c 0 0 (MQ below (Qw D (wM ad ca) σf (some (.int rf)) A) args s 0 0 A) 4 (wd D A (wM ad ca) s σ) 14 [(0, .ref (ad 0)), (1, .int y0), (2, .int y1), (3, .int y2)] [] := by
  intro n
  induction n with
  | zero => intro σ12 x9 x10 x11 h13; exact nn h13
  | succ n hq14 =>
    intro σ12 x9 x10 x11 h13
    replace h13 : fX3_links_14b N q55 (fX3_links_14 N q55 n) σ12 x9 x10 x11 = some (rf, σf) := h13
    refine b_iload_n C 3 dX3_links_14 rfl rfl ?_
    refine b_aload_n C 0 dX3_links_15 rfl rfl ?_
    refine gX3_50 C X dX3_links_16 ?_
    refine b_icmp_ge (tgt := 55) C dX3_links_19 (by decide) (fun c14 => ?_) (fun c14 => ?_)
    · have h15 := ipos h13 c14; clear h13
      exact b_sub [0, 1, 2] rfl (hq55 _ _ _ h15)
    have h16 := ineg h13 c14; clear h13
    refine b_iload_n C 1 dX3_links_22 rfl rfl ?_
    refine b_iload_n C 2 dX3_links_23 rfl rfl ?_
    refine b_iload_n C 3 dX3_links_24 rfl rfl ?_
    refine b_icmp_eq (tgt := 46) C dX3_links_25 (by decide) (fun c17 => ?_) (fun c17 => ?_)
    · have h18 := ipos h16 c17; clear h16
      refine b_iconst (v := (0 : Int32)) C dX3_links_46 (by decide) ?_
      refine b_iadd C dX3_links_47 ?_
      obtain ⟨x20, ex20, h21⟩ := lt1_inv h18; clear h18
      refine b_nmI ex20 ?_
      refine b_istore_n (lv' := [(1, .int x20), (0, .ref (ad 0)), (2, .int x10), (3, .int x11)]) C dX3_links_48 rfl (by decide) rfl ?_
      obtain ⟨x22, ex22, h23⟩ := lt1_inv h21; clear h21
      refine b_iinc (v := x22) (lv' := [(3, .int x22), (1, .int x20), (0, .ref (ad 0)), (2, .int x10)]) C 3 dX3_links_49 rfl (by rw [ex22]; rfl) (by decide) rfl ?_
      refine b_goto (tgt := 14) C dX3_links_52 (by decide) ?_
      exact b_sub [2, 1, 3, 0] rfl (hq14 _ _ _ _ h23)
    have h19 := ineg h16 c17; clear h16
    refine b_aload_n C 0 dX3_links_28 rfl rfl ?_
    refine gX3_26 C X dX3_links_29 ?_
    refine b_bipush (v := (10 : Int32)) C dX3_links_32 (by decide) ?_
    refine b_iload_n C 2 dX3_links_34 rfl rfl ?_
    refine b_imul C dX3_links_35 ?_
    refine b_iload_n C 3 dX3_links_36 rfl rfl ?_
    refine b_iadd C dX3_links_37 ?_
    obtain ⟨g25, h24⟩ := gdn h19; clear h19
    refine lM_6 C X g25 dX3_links_38 ?_
    refine b_if_lt (tgt := 46) C dX3_links_39 (by decide) (fun c26 => ?_) (fun c26 => ?_)
    · have h27 := ipos h24 c26; clear h24
      refine b_iconst (v := (0 : Int32)) C dX3_links_46 (by decide) ?_
      refine b_iadd C dX3_links_47 ?_
      obtain ⟨x29, ex29, h30⟩ := lt1_inv h27; clear h27
      refine b_nmI ex29 ?_
      refine b_istore_n (lv' := [(1, .int x29), (0, .ref (ad 0)), (2, .int x10), (3, .int x11)]) C dX3_links_48 rfl (by decide) rfl ?_
      obtain ⟨x31, ex31, h32⟩ := lt1_inv h30; clear h30
      refine b_iinc (v := x31) (lv' := [(3, .int x31), (1, .int x29), (0, .ref (ad 0)), (2, .int x10)]) C 3 dX3_links_49 rfl (by rw [ex31]; rfl) (by decide) rfl ?_
      refine b_goto (tgt := 14) C dX3_links_52 (by decide) ?_
      exact b_sub [2, 1, 3, 0] rfl (hq14 _ _ _ _ h32)
    have h28 := ineg h24 c26; clear h24
    refine b_iconst (v := (1 : Int32)) C dX3_links_42 (by decide) ?_
    refine b_goto (tgt := 47) C dX3_links_43 (by decide) ?_
    refine b_iadd C dX3_links_47 ?_
    obtain ⟨x33, ex33, h34⟩ := lt1_inv h28; clear h28
    refine b_nmI ex33 ?_
    refine b_istore_n (lv' := [(1, .int x33), (0, .ref (ad 0)), (2, .int x10), (3, .int x11)]) C dX3_links_48 rfl (by decide) rfl ?_
    obtain ⟨x35, ex35, h36⟩ := lt1_inv h34; clear h34
    refine b_iinc (v := x35) (lv' := [(3, .int x35), (1, .int x33), (0, .ref (ad 0)), (2, .int x10)]) C 3 dX3_links_49 rfl (by rw [ex35]; rfl) (by decide) rfl ?_
    refine b_goto (tgt := 14) C dX3_links_52 (by decide) ?_
    exact b_sub [2, 1, 3, 0] rfl (hq14 _ _ _ _ h36)
theorem wX3_links_4 {l : Launch} {p : Program} {e : Env} {s : State} {m : MethodId} {args : Array Value} {below : List Frame} {meth : Method} {c : Code} {D : va_G} {A : Nat → Prop} {ad : Nat → Nat} {ca : Nat → ClassId} {rf : Int32} {σf : St} (C : Cb p s m args meth c RX3 cX3_links 4) (X : Cx s D A (wM ad ca) (tyM ca)) (hr : meth.sig.returnType = (some .int)) {N : Nat} {q61 : St → Int32 → Option (Int32 × St)} (hq61 : ∀ (σ : St) (y0 : Int32), q61 σ y0 = some (rf, σf) → bW p l e rmX3_links s m args below meth c 0 0 (MQ below (Qw D (wM ad ca) σf (some (.int rf)) A) args s 0 0 A) 4 (wd D A (wM ad ca) s σ) 61 [(1, .int y0)] []) : ∀ n : Nat, ∀ (σ : St) (y0 : Int32) (y1 : Int32), fX3_links_4 N q61 n σ y0 y1 = some (rf, σf) → bW p l e rmX3_links s m args below meth c 0 0 (MQ below (Qw D (wM ad ca) σf (some (.int rf)) A) args s 0 0 A) 4 (wd D A (wM ad ca) s σ) 4 [(0, .ref (ad 0)), (1, .int y0), (2, .int y1)] [] := by
  intro n
  induction n with
  | zero => intro σ4 x2 x3 h5; exact nn h5
  | succ n hq4 =>
    intro σ4 x2 x3 h5
    replace h5 : fX3_links_4b N q61 (fX3_links_4 N q61 n) σ4 x2 x3 = some (rf, σf) := h5
    refine b_iload_n C 2 dX3_links_4 rfl rfl ?_
    refine b_aload_n C 0 dX3_links_5 rfl rfl ?_
    refine gX3_50 C X dX3_links_6 ?_
    refine b_icmp_ge (tgt := 61) C dX3_links_9 (by decide) (fun c6 => ?_) (fun c6 => ?_)
    · have h7 := ipos h5 c6; clear h5
      exact b_sub [1] rfl (hq61 _ _ h7)
    have h8 := ineg h5 c6; clear h5
    refine b_iconst (v := (0 : Int32)) C dX3_links_12 (by decide) ?_
    refine b_istore_n (lv' := [(3, .int (0 : Int32)), (0, .ref (ad 0)), (1, .int x2), (2, .int x3)]) C dX3_links_13 rfl (by decide) rfl ?_
    refine b_sub [1, 2, 3, 0] rfl (wX3_links_14 C X hr (fun σ39 x37 x38 h40 => ?_) _ _ _ _ _ h8)
    obtain ⟨x41, ex41, h42⟩ := lt1_inv h40; clear h40
    refine b_iinc (v := x41) (lv' := [(2, .int x41), (0, .ref (ad 0)), (1, .int x37)]) C 2 dX3_links_55 rfl (by rw [ex41]; rfl) (by decide) rfl ?_
    refine b_goto (tgt := 4) C dX3_links_58 (by decide) ?_
    exact b_sub [1, 2, 0] rfl (hq4 _ _ _ h42)
theorem ctX3_links {l : Launch} {ad : Nat → Nat} {ca : Nat → ClassId} {N : Nat} {σ : St} {rf : Int32} {σf : St} (h : fX3_links N σ = some (rf, σf)) : Cw l yX3_links cX3_links 4 (some .int) rmX3_links [.ref (ad 0)] (wM ad ca) (tyM ca) σ (some (.int rf)) σf := by
  refine Cw_of (by decide) (sameM ad ca) (Nat.le_of_ble_eq_true rfl) ?_
  intro p e s m args below meth c D A C X hr
  replace C : Cb p s m args meth c RX3 cX3_links 4 := C
  have h1 := h; clear h
  refine b_sub (lv' := [(0, .ref (ad 0))]) [0] rfl ?_
  refine b_iconst (v := (0 : Int32)) C dX3_links_0 (by decide) ?_
  refine b_istore_n (lv' := [(1, .int (0 : Int32)), (0, .ref (ad 0))]) C dX3_links_1 rfl (by decide) rfl ?_
  refine b_iconst (v := (0 : Int32)) C dX3_links_2 (by decide) ?_
  refine b_istore_n (lv' := [(2, .int (0 : Int32)), (1, .int (0 : Int32)), (0, .ref (ad 0))]) C dX3_links_3 rfl (by decide) rfl ?_
  refine b_sub [2, 1, 0] rfl (wX3_links_4 C X hr (fun σ44 x43 h45 => ?_) _ _ _ _ h1)
  refine b_iload_n C 0 dX3_links_61 rfl rfl ?_
  obtain ⟨rfl, rfl⟩ := so2 h45
  exact b_iret C dX3_links_62 hr
