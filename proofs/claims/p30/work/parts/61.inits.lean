/-! the constructors -/
def rmX0_init : Room := { frames := 1, cells := 2, slots := 1220, locals := 20 }
def poX0 (h0 N' : Nat) : va_W × TyL → Prop := fun u => ∃ (q1 q2 : Nat) (c1 c2 : ClassId), u = ([(h0, .inr (0, [.int 10, .ref q1, .ref q2])), (q1, .inl (c1, N', .inr (.inl fun _ => 0))), (q2, .inl (c2, N', .inr (.inl fun _ => 0)))], [(c1, .long), (c2, .long)])
theorem ciX0 {l : Launch} {h0 r : Nat} (hr0 : 0 < r) (hr : r ≤ 61) : Ci l yX0_init cX0_init 4 rmX0_init [.ref h0, .int (nI r), .int (nI 10)] [(h0, .inr (0, [.int 0, .null, .null]))] (poX0 h0 (10 * r)) 2 1220 := by
  refine Ci_of (by decide) (Nat.le_of_ble_eq_true rfl) ?_
  intro p e s m args below meth c D A C hn0 hrt hX hA
  replace C : Cb p s m args meth c RX0 cX0_init 4 := C
  have hK0 := hX.1
  refine b_sub (lv' := [(0, .ref h0), (1, .int (nI r)), (2, .int (nI 10))]) [0, 1, 2] rfl ?_
  refine b_aload_n C 0 dX0_init_0 rfl rfl ?_
  refine b_objInit C ko_X0 dX0_init_1 (Nat.le_of_ble_eq_true rfl) (Nat.le_of_ble_eq_true rfl) ?_
  refine b_iload_n C 1 dX0_init_4 rfl rfl ?_
  refine b_if_le (tgt := 18) C dX0_init_5 (by decide) (fun z => absurd z (nI_nle hr0 (by omega))) (fun _ => ?_)
  refine b_iload_n C 2 dX0_init_8 rfl rfl ?_
  refine b_if_le (tgt := 18) C dX0_init_9 (by decide) (fun z => absurd z (by decide)) (fun _ => ?_)
  refine b_iload_n C 1 dX0_init_12 rfl rfl ?_
  refine b_iload_n C 2 dX0_init_13 rfl rfl ?_
  refine b_imul C dX0_init_14 ?_
  rw [pk_mul, Nat.mul_comm r 10]
  refine b_goto (tgt := 19) C dX0_init_15 (by decide) ?_
  refine b_istore_n (lv' := [(3, .int (nI (10 * r))), (0, .ref h0), (1, .int (nI r)), (2, .int (nI 10))]) C dX0_init_19 rfl (by decide) rfl ?_
  refine b_aload_n C 1 dX0_init_20 rfl rfl ?_
  refine b_iload_n C 3 dX0_init_21 rfl rfl ?_
  refine b_putF C hn0 hK0 inX0 tyX0 tyX0_ok nmX0 0 rfl rfl 0 (by decide) kf_X0_7 rfl rfl (ty := .int) rfl rfl rfl (Nat.le_of_ble_eq_true rfl) dX0_init_22 ?_
  refine b_aload_n C 1 dX0_init_25 rfl rfl ?_
  refine b_iload_n C 0 dX0_init_26 rfl rfl ?_
  refine b_newa C hK0 hA (atype := .long) rfl ka_long (N' := 10 * r) (a0 := (10 * r, .inr (.inl fun _ => 0))) (fun _ => rfl) (nI_pos (by omega)) (nI_clamp (by omega)) (by show 10 * r * 8 ≤ _; omega) (by show _ ≤ 2; omega) (by show _ ≤ 1220; omega) dX0_init_27 (fun q1 c1 hK1 => ?_)
  refine b_putF C hn0 hK1 inX0 tyX0 tyX0_ok nmX0 0 rfl rfl 1 (by decide) kf_X0_13 rfl rfl (ty := .array .long) rfl rfl rfl (Nat.le_of_ble_eq_true rfl) dX0_init_29 ?_
  refine b_aload_n C 1 dX0_init_32 rfl rfl ?_
  refine b_iload_n C 0 dX0_init_33 rfl rfl ?_
  refine b_newa C hK1 hA (atype := .long) rfl ka_long (N' := 10 * r) (a0 := (10 * r, .inr (.inl fun _ => 0))) (fun _ => rfl) (nI_pos (by omega)) (nI_clamp (by omega)) (by show 10 * r * 8 ≤ _; omega) (by show _ ≤ 2; omega) (by show _ ≤ 1220; omega) dX0_init_34 (fun q2 c2 hK2 => ?_)
  refine b_putF C hn0 hK2 inX0 tyX0 tyX0_ok nmX0 0 rfl rfl 2 (by decide) kf_X0_17 rfl rfl (ty := .array .long) rfl rfl rfl (Nat.le_of_ble_eq_true rfl) dX0_init_36 ?_
  exact b_iend C hrt hK2 ⟨q1, q2, c1, c2, rfl⟩ (by omega) (by omega) dX0_init_39
def rmX1_init : Room := { frames := 1, cells := 1, slots := 40, locals := 20 }
def poX1 (h0 : Nat) : va_W × TyL → Prop := fun u => ∃ (q1 : Nat) (c1 : ClassId), u = ([(h0, .inr (1, [.ref q1, .int 0, .int 0, .long 0, .long 0, .long 0])), (q1, .inl (c1, 40, .inl fun _ => 0))], [(c1, .char)])
theorem ciX1 {l : Launch} {h0 : Nat} : Ci l yX1_init cX1_init 1 rmX1_init [.ref h0] [(h0, .inr (1, [.null, .int 0, .int 0, .long 0, .long 0, .long 0]))] (poX1 h0) 1 40 := by
  refine Ci_of (by decide) (Nat.le_of_ble_eq_true rfl) ?_
  intro p e s m args below meth c D A C hn0 hrt hX hA
  replace C : Cb p s m args meth c RX1 cX1_init 1 := C
  have hK0 := hX.1
  refine b_sub (lv' := [(0, .ref h0)]) [0] rfl ?_
  refine b_aload_n C 0 dX1_init_0 rfl rfl ?_
  refine b_objInit C ko_X1 dX1_init_1 (Nat.le_of_ble_eq_true rfl) (Nat.le_of_ble_eq_true rfl) ?_
  refine b_aload_n C 0 dX1_init_4 rfl rfl ?_
  refine b_bipush (v := nI 40) C dX1_init_5 (by decide) ?_
  refine b_newa C hK0 hA (atype := .char) rfl ka_char (N' := 40) (a0 := (40, .inl fun _ => 0)) (fun _ => rfl) (by decide) (nI_clamp (by omega)) (Nat.le_of_ble_eq_true rfl) (Nat.le_of_ble_eq_true rfl) (Nat.le_of_ble_eq_true rfl) dX1_init_7 (fun q1 c1 hK1 => ?_)
  refine b_putF C hn0 hK1 inX1 tyX1 tyX1_ok nmX1 0 rfl rfl 0 (by decide) kf_X1_9 rfl rfl (ty := .array .char) rfl rfl rfl (Nat.le_of_ble_eq_true rfl) dX1_init_9 ?_
  exact b_iend C hrt hK1 ⟨q1, c1, rfl⟩ (by omega) (by omega) dX1_init_12
/-- addresses and array classes, by a list -/
def adL (xs : List Nat) : Nat → Nat := fun k => xs.getD k 0
def caL (xs : List ClassId) (c0 : ClassId) : Nat → ClassId := fun k => xs.getD k c0
def rmX2_init : Room := { frames := 4, cells := 12, slots := 2622, locals := 120 }
def poX2 (h0 : Nat) (σf : St) : va_W × TyL → Prop := fun u => ∃ (ad : Nat → Nat) (ca : Nat → ClassId), ad 0 = h0 ∧ u = (wX ad ca σf, tyX ca)
theorem ciX2 {l : Launch} {h0 N : Nat} {σf : St} (hst : fX2_startAnew N st0 4 1 720720 = some σf) : Ci l yX2_init cX2_init 1 rmX2_init [.ref h0] [(h0, .inr (2, [.null, .null, .null, .null, .null, .null, .null, .int 0, .int 0, .int 0, .int 0, .int 0]))] (poX2 h0 σf) 12 2622 := by
  refine Ci_of (by decide) (Nat.le_of_ble_eq_true rfl) ?_
  intro p e s m args below meth c D A C hn0 hrt hX hA
  replace C : Cb p s m args meth c RX2 cX2_init 1 := C
  have hK0 := hX.1
  refine b_sub (lv' := [(0, .ref h0)]) [0] rfl ?_
  refine b_aload_n C 0 dX2_init_0 rfl rfl ?_
  refine b_objInit C ko_X2 dX2_init_1 (Nat.le_of_ble_eq_true rfl) (Nat.le_of_ble_eq_true rfl) ?_
  refine b_aload_n C 0 dX2_init_4 rfl rfl ?_
  refine b_new (N := 6) (ci := 1) (fs := [.null, .int 0, .int 0, .long 0, .long 0, .long 0]) C hK0 hA inX1 tyX1 tyX1_ok kk_X2_9 kn_X1 ki_X1 rfl (fun j hj => by rcases (show j = 0 ∨ j = 1 ∨ j = 2 ∨ j = 3 ∨ j = 4 ∨ j = 5 by omega) with rfl | rfl | rfl | rfl | rfl | rfl <;> rfl) (Nat.le_of_ble_eq_true rfl) (Nat.le_of_ble_eq_true rfl) dX2_init_5 (fun q1 => ?_)
  refine b_dup C dX2_init_8 rfl ?_
  refine b_callIN (rest := [.ref q1, .ref h0]) (As := []) (wr := [(h0, .inr (2, [.null, .null, .null, .null, .null, .null, .null, .int 0, .int 0, .int 0, .int 0, .int 0]))]) C hK0 hX hA [1] [0] rfl rfl rfl rfl (by decide) dX2_init_9 (ciX1 (h0 := q1)) mf_X1_init mi_X1_init rfl hX.2.1 rfl ⟨rfl, rfl⟩ ⟨Nat.le_of_ble_eq_true rfl, Nat.le_of_ble_eq_true rfl⟩ ⟨Nat.le_of_ble_eq_true rfl, Nat.le_of_ble_eq_true rfl⟩ rfl (Nat.le_of_ble_eq_true rfl) (fun u hu hK1 => ?_)
  obtain ⟨q2, c2, rfl⟩ := hu
  refine b_putF C hn0 hK1 inX2 tyX2 tyX2_ok nmX2 0 rfl rfl 0 (by decide) kf_X2_12 rfl rfl (ty := .object RX1) rfl rfl rfl (Nat.le_of_ble_eq_true rfl) dX2_init_12 ?_
  refine b_aload_n C 0 dX2_init_15 rfl rfl ?_
  refine b_new (N := 3) (ci := 0) (fs := [.int 0, .null, .null]) C hK1 hA inX0 tyX0 tyX0_ok kk_X2_18 kn_X0 ki_X0 rfl (fun j hj => by rcases (show j = 0 ∨ j = 1 ∨ j = 2 by omega) with rfl | rfl | rfl <;> rfl) (Nat.le_of_ble_eq_true rfl) (Nat.le_of_ble_eq_true rfl) dX2_init_16 (fun q3 => ?_)
  refine b_dup C dX2_init_19 rfl ?_
  refine b_bipush (v := nI 61) C dX2_init_20 (by decide) ?_
  refine b_bipush (v := nI 10) C dX2_init_22 (by decide) ?_
  refine b_callI (wr := [(h0, .inr (2, [.ref q1, .null, .null, .null, .null, .null, .null, .int 0, .int 0, .int 0, .int 0, .int 0])), (q1, .inr (1, [.ref q2, .int 0, .int 0, .long 0, .long 0, .long 0])), (q2, .inl (c2, 40, .inl fun _ => 0))]) (rest := [.ref q3, .ref h0]) (As := [.int (nI 61), .int (nI 10)]) C hK1 hX hA [3] [0, 1, 2] rfl rfl rfl rfl (by decide) dX2_init_24 (ciX0 (h0 := q3) (r := 61) (by omega) (by omega)) mf_X0_init mi_X0_init rfl kl_X2_20 rfl ⟨rfl, rfl⟩ ⟨(Nat.le_of_ble_eq_true rfl), (Nat.le_of_ble_eq_true rfl)⟩ ⟨(Nat.le_of_ble_eq_true rfl), (Nat.le_of_ble_eq_true rfl)⟩ rfl (Nat.le_of_ble_eq_true rfl) (fun u hu hK2 => ?_)
  obtain ⟨q4, q5, c4, c5, rfl⟩ := hu
  refine b_putF C hn0 hK2 inX2 tyX2 tyX2_ok nmX2 0 rfl rfl 1 (by decide) kf_X2_23 rfl rfl (ty := .object RX0) rfl rfl rfl (Nat.le_of_ble_eq_true rfl) dX2_init_27 ?_
  refine b_aload_n C 0 dX2_init_30 rfl rfl ?_
  refine b_new (N := 3) (ci := 0) (fs := [.int 0, .null, .null]) C hK2 hA inX0 tyX0 tyX0_ok kk_X2_18 kn_X0 ki_X0 rfl (fun j hj => by rcases (show j = 0 ∨ j = 1 ∨ j = 2 by omega) with rfl | rfl | rfl <;> rfl) (Nat.le_of_ble_eq_true rfl) (Nat.le_of_ble_eq_true rfl) dX2_init_31 (fun q6 => ?_)
  refine b_dup C dX2_init_34 rfl ?_
  refine b_bipush (v := nI 10) C dX2_init_35 (by decide) ?_
  refine b_bipush (v := nI 10) C dX2_init_37 (by decide) ?_
  refine b_callI (wr := [(h0, .inr (2, [.ref q1, .ref q3, .null, .null, .null, .null, .null, .int 0, .int 0, .int 0, .int 0, .int 0])), (q1, .inr (1, [.ref q2, .int 0, .int 0, .long 0, .long 0, .long 0])), (q2, .inl (c2, 40, .inl fun _ => 0)), (q3, .inr (0, [.int 10, .ref q4, .ref q5])), (q4, .inl (c4, 610, .inr (.inl fun _ => 0))), (q5, .inl (c5, 610, .inr (.inl fun _ => 0)))]) (rest := [.ref q6, .ref h0]) (As := [.int (nI 10), .int (nI 10)]) C hK2 hX hA [6] [0, 1, 2, 3, 4, 5] rfl rfl rfl rfl (by decide) dX2_init_39 (ciX0 (h0 := q6) (r := 10) (by omega) (by omega)) mf_X0_init mi_X0_init rfl kl_X2_20 rfl ⟨rfl, rfl⟩ ⟨(Nat.le_of_ble_eq_true rfl), (Nat.le_of_ble_eq_true rfl)⟩ ⟨(Nat.le_of_ble_eq_true rfl), (Nat.le_of_ble_eq_true rfl)⟩ rfl (Nat.le_of_ble_eq_true rfl) (fun u hu hK3 => ?_)
  obtain ⟨q7, q8, c7, c8, rfl⟩ := hu
  refine b_putF C hn0 hK3 inX2 tyX2 tyX2_ok nmX2 0 rfl rfl 2 (by decide) kf_X2_27 rfl rfl (ty := .object RX0) rfl rfl rfl (Nat.le_of_ble_eq_true rfl) dX2_init_42 ?_
  refine b_aload_n C 0 dX2_init_45 rfl rfl ?_
  refine b_bipush (v := nI 100) C dX2_init_46 (by decide) ?_
  refine b_newa C hK3 hA (atype := .int) rfl ka_int (N' := 100) (a0 := (100, .inl fun _ => 0)) (fun _ => rfl) (by decide) (nI_clamp (by omega)) (Nat.le_of_ble_eq_true rfl) (Nat.le_of_ble_eq_true rfl) (Nat.le_of_ble_eq_true rfl) dX2_init_48 (fun q9 c9 hK9 => ?_)
  refine b_putF C hn0 hK9 inX2 tyX2 tyX2_ok nmX2 0 rfl rfl 3 (by decide) kf_X2_30 rfl rfl (ty := .array .int) rfl rfl rfl (Nat.le_of_ble_eq_true rfl) dX2_init_50 ?_
  refine b_aload_n C 0 dX2_init_53 rfl rfl ?_
  refine b_bipush (v := nI 10) C dX2_init_54 (by decide) ?_
  refine b_newa C hK9 hA (atype := .int) rfl ka_int (N' := 10) (a0 := (10, .inl fun _ => 0)) (fun _ => rfl) (by decide) (nI_clamp (by omega)) (Nat.le_of_ble_eq_true rfl) (Nat.le_of_ble_eq_true rfl) (Nat.le_of_ble_eq_true rfl) dX2_init_56 (fun q10 c10 hK10 => ?_)
  refine b_putF C hn0 hK10 inX2 tyX2 tyX2_ok nmX2 0 rfl rfl 4 (by decide) kf_X2_34 rfl rfl (ty := .array .int) rfl rfl rfl (Nat.le_of_ble_eq_true rfl) dX2_init_58 ?_
  refine b_aload_n C 0 dX2_init_61 rfl rfl ?_
  refine b_bipush (v := nI 10) C dX2_init_62 (by decide) ?_
  refine b_newa C hK10 hA (atype := .long) rfl ka_long (N' := 10) (a0 := (10, .inr (.inl fun _ => 0))) (fun _ => rfl) (by decide) (nI_clamp (by omega)) (Nat.le_of_ble_eq_true rfl) (Nat.le_of_ble_eq_true rfl) (Nat.le_of_ble_eq_true rfl) dX2_init_64 (fun q11 c11 hK11 => ?_)
  refine b_putF C hn0 hK11 inX2 tyX2 tyX2_ok nmX2 0 rfl rfl 5 (by decide) kf_X2_37 rfl rfl (ty := .array .long) rfl rfl rfl (Nat.le_of_ble_eq_true rfl) dX2_init_66 ?_
  refine b_aload_n C 0 dX2_init_69 rfl rfl ?_
  refine b_bipush (v := nI 10) C dX2_init_70 (by decide) ?_
  refine b_newa C hK11 hA (atype := .long) rfl ka_long (N' := 10) (a0 := (10, .inr (.inl fun _ => 0))) (fun _ => rfl) (by decide) (nI_clamp (by omega)) (Nat.le_of_ble_eq_true rfl) (Nat.le_of_ble_eq_true rfl) (Nat.le_of_ble_eq_true rfl) dX2_init_72 (fun q12 c12 hK12 => ?_)
  refine b_putF C hn0 hK12 inX2 tyX2 tyX2_ok nmX2 0 rfl rfl 6 (by decide) kf_X2_41 rfl rfl (ty := .array .long) rfl rfl rfl (Nat.le_of_ble_eq_true rfl) dX2_init_74 ?_
  refine b_aload_n C 0 dX2_init_77 rfl rfl ?_
  refine b_iconst (v := 4) C dX2_init_78 (by decide) ?_
  refine b_iconst (v := 1) C dX2_init_79 (by decide) ?_
  refine b_ldc (v := 720720) C dX2_init_80 kc_X2_44 ?_
  -- the world of the class
  refine b_world (w := wX (adL [h0, q1, q2, q3, q4, q5, q6, q7, q8, q9, q10, q11, q12]) (caL [c2, c2, c2, c2, c4, c5, c5, c7, c8, c9, c10, c11, c12] c2)) (tys := tyX (caL [c2, c2, c2, c2, c4, c5, c5, c7, c8, c9, c10, c11, c12] c2)) (sameX _ _) (σ := st0) rfl hK12 hX hA (fun X => ?_)
  refine b_callWv (rest := []) C (sameX _ _) X dX2_init_82 (ctX2_startAnew hst) mf_X2_startAnew mi_X2_startAnew kl_X2_45 0 rfl rfl rfl rfl ⟨rfl, rfl⟩ ⟨Nat.le_of_ble_eq_true rfl, Nat.le_of_ble_eq_true rfl⟩ ⟨Nat.le_of_ble_eq_true rfl, Nat.le_of_ble_eq_true rfl⟩ rfl (Nat.le_of_ble_eq_true rfl) ?_
  refine b_unworld X ?_
  exact b_iend C hrt X.1.1 ⟨_, _, rfl, rfl⟩ (Nat.le_of_ble_eq_true rfl) (Nat.le_of_ble_eq_true rfl) dX2_init_85
