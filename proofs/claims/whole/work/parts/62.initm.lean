/-! the reference's constructor -/
def rmX3_init : Room := { frames := 4, cells := 9, slots := 1610, locals := 120 }
def poX3 (h0 : Nat) (τf : St) : va_W × TyL → Prop := fun u => ∃ (ad : Nat → Nat) (ca : Nat → ClassId), ad 0 = h0 ∧ u = (wM ad ca τf, tyM ca)
theorem ciX3 {l : Launch} {h0 N : Nat} {τf : St} (hst : fX3_begin N st0 4 1 720720 = some τf) : Ci l yX3_init cX3_init 1 rmX3_init [.ref h0] [(h0, .inr (3, [.int 0, .int 0, .long 0, .int 0, .int 0, .null, .null, .null, .null, .null, .null, .null, .int 0, .null, .int 0, .int 0, .long 0, .long 0, .int 0, .null]))] (poX3 h0 τf) 9 1610 := by
  refine Ci_of (by decide) (Nat.le_of_ble_eq_true rfl) ?_
  intro p e s m args below meth c D A C hn0 hrt hX hA
  replace C : Cb p s m args meth c RX3 cX3_init 1 := C
  have hK0 := hX.1
  refine b_sub (lv' := [(0, .ref h0)]) [0] rfl ?_
  refine b_aload_n C 0 dX3_init_0 rfl rfl ?_
  refine b_objInit C ko_X3 dX3_init_1 (Nat.le_of_ble_eq_true rfl) (Nat.le_of_ble_eq_true rfl) ?_
  refine b_aload_n C 0 dX3_init_4 rfl rfl ?_
  refine b_bipush (v := nI 20) C dX3_init_5 (by decide) ?_
  refine b_newa C hK0 hA (atype := .long) rfl ka_long (N' := 20) (a0 := (20, .inr (.inl fun _ => 0))) (fun _ => rfl) (by decide) (nI_clamp (by omega)) (Nat.le_of_ble_eq_true rfl) (Nat.le_of_ble_eq_true rfl) (Nat.le_of_ble_eq_true rfl) dX3_init_7 (fun q1 c1 hK1 => ?_)
  refine b_putF C hn0 hK1 inX3 tyX3 tyX3_ok nmX3 0 rfl rfl 5 (by decide) kf_X3_7 rfl rfl (ty := .array .long) rfl rfl rfl (Nat.le_of_ble_eq_true rfl) dX3_init_9 ?_
  refine b_aload_n C 0 dX3_init_12 rfl rfl ?_
  refine b_bipush (v := nI 10) C dX3_init_13 (by decide) ?_
  refine b_newa C hK1 hA (atype := .int) rfl ka_int (N' := 10) (a0 := (10, .inl fun _ => 0)) (fun _ => rfl) (by decide) (nI_clamp (by omega)) (Nat.le_of_ble_eq_true rfl) (Nat.le_of_ble_eq_true rfl) (Nat.le_of_ble_eq_true rfl) dX3_init_15 (fun q2 c2 hK2 => ?_)
  refine b_putF C hn0 hK2 inX3 tyX3 tyX3_ok nmX3 0 rfl rfl 6 (by decide) kf_X3_13 rfl rfl (ty := .array .int) rfl rfl rfl (Nat.le_of_ble_eq_true rfl) dX3_init_17 ?_
  refine b_aload_n C 0 dX3_init_20 rfl rfl ?_
  refine b_bipush (v := nI 10) C dX3_init_21 (by decide) ?_
  refine b_newa C hK2 hA (atype := .long) rfl ka_long (N' := 10) (a0 := (10, .inr (.inl fun _ => 0))) (fun _ => rfl) (by decide) (nI_clamp (by omega)) (Nat.le_of_ble_eq_true rfl) (Nat.le_of_ble_eq_true rfl) (Nat.le_of_ble_eq_true rfl) dX3_init_23 (fun q3 c3 hK3 => ?_)
  refine b_putF C hn0 hK3 inX3 tyX3 tyX3_ok nmX3 0 rfl rfl 7 (by decide) kf_X3_17 rfl rfl (ty := .array .long) rfl rfl rfl (Nat.le_of_ble_eq_true rfl) dX3_init_25 ?_
  refine b_aload_n C 0 dX3_init_28 rfl rfl ?_
  refine b_bipush (v := nI 100) C dX3_init_29 (by decide) ?_
  refine b_newa C hK3 hA (atype := .long) rfl ka_long (N' := 100) (a0 := (100, .inr (.inl fun _ => 0))) (fun _ => rfl) (by decide) (nI_clamp (by omega)) (Nat.le_of_ble_eq_true rfl) (Nat.le_of_ble_eq_true rfl) (Nat.le_of_ble_eq_true rfl) dX3_init_31 (fun q4 c4 hK4 => ?_)
  refine b_putF C hn0 hK4 inX3 tyX3 tyX3_ok nmX3 0 rfl rfl 8 (by decide) kf_X3_20 rfl rfl (ty := .array .long) rfl rfl rfl (Nat.le_of_ble_eq_true rfl) dX3_init_33 ?_
  refine b_aload_n C 0 dX3_init_36 rfl rfl ?_
  refine b_bipush (v := nI 100) C dX3_init_37 (by decide) ?_
  refine b_newa C hK4 hA (atype := .long) rfl ka_long (N' := 100) (a0 := (100, .inr (.inl fun _ => 0))) (fun _ => rfl) (by decide) (nI_clamp (by omega)) (Nat.le_of_ble_eq_true rfl) (Nat.le_of_ble_eq_true rfl) (Nat.le_of_ble_eq_true rfl) dX3_init_39 (fun q5 c5 hK5 => ?_)
  refine b_putF C hn0 hK5 inX3 tyX3 tyX3_ok nmX3 0 rfl rfl 9 (by decide) kf_X3_23 rfl rfl (ty := .array .long) rfl rfl rfl (Nat.le_of_ble_eq_true rfl) dX3_init_41 ?_
  refine b_aload_n C 0 dX3_init_44 rfl rfl ?_
  refine b_bipush (v := nI 100) C dX3_init_45 (by decide) ?_
  refine b_newa C hK5 hA (atype := .int) rfl ka_int (N' := 100) (a0 := (100, .inl fun _ => 0)) (fun _ => rfl) (by decide) (nI_clamp (by omega)) (Nat.le_of_ble_eq_true rfl) (Nat.le_of_ble_eq_true rfl) (Nat.le_of_ble_eq_true rfl) dX3_init_47 (fun q6 c6 hK6 => ?_)
  refine b_putF C hn0 hK6 inX3 tyX3 tyX3_ok nmX3 0 rfl rfl 10 (by decide) kf_X3_26 rfl rfl (ty := .array .int) rfl rfl rfl (Nat.le_of_ble_eq_true rfl) dX3_init_49 ?_
  refine b_aload_n C 0 dX3_init_52 rfl rfl ?_
  refine b_sipush (v := nI 1220) C dX3_init_53 (by decide) ?_
  refine b_newa C hK6 hA (atype := .long) rfl ka_long (N' := 1220) (a0 := (1220, .inr (.inl fun _ => 0))) (fun _ => rfl) (by decide) (nI_clamp (by omega)) (Nat.le_of_ble_eq_true rfl) (Nat.le_of_ble_eq_true rfl) (Nat.le_of_ble_eq_true rfl) dX3_init_56 (fun q7 c7 hK7 => ?_)
  refine b_putF C hn0 hK7 inX3 tyX3 tyX3_ok nmX3 0 rfl rfl 11 (by decide) kf_X3_29 rfl rfl (ty := .array .long) rfl rfl rfl (Nat.le_of_ble_eq_true rfl) dX3_init_58 ?_
  refine b_aload_n C 0 dX3_init_61 rfl rfl ?_
  refine b_bipush (v := nI 40) C dX3_init_62 (by decide) ?_
  refine b_newa C hK7 hA (atype := .char) rfl ka_char (N' := 40) (a0 := (40, .inl fun _ => 0)) (fun _ => rfl) (by decide) (nI_clamp (by omega)) (Nat.le_of_ble_eq_true rfl) (Nat.le_of_ble_eq_true rfl) (Nat.le_of_ble_eq_true rfl) dX3_init_64 (fun q8 c8 hK8 => ?_)
  refine b_putF C hn0 hK8 inX3 tyX3 tyX3_ok nmX3 0 rfl rfl 13 (by decide) kf_X3_32 rfl rfl (ty := .array .char) rfl rfl rfl (Nat.le_of_ble_eq_true rfl) dX3_init_66 ?_
  refine b_aload_n C 0 dX3_init_69 rfl rfl ?_
  refine b_bipush (v := nI 10) C dX3_init_70 (by decide) ?_
  refine b_newa C hK8 hA (atype := .long) rfl ka_long (N' := 10) (a0 := (10, .inr (.inl fun _ => 0))) (fun _ => rfl) (by decide) (nI_clamp (by omega)) (Nat.le_of_ble_eq_true rfl) (Nat.le_of_ble_eq_true rfl) (Nat.le_of_ble_eq_true rfl) dX3_init_72 (fun q9 c9 hK9 => ?_)
  refine b_putF C hn0 hK9 inX3 tyX3 tyX3_ok nmX3 0 rfl rfl 19 (by decide) kf_X3_36 rfl rfl (ty := .array .long) rfl rfl rfl (Nat.le_of_ble_eq_true rfl) dX3_init_74 ?_
  refine b_aload_n C 0 dX3_init_77 rfl rfl ?_
  refine b_iconst (v := 4) C dX3_init_78 (by decide) ?_
  refine b_iconst (v := 1) C dX3_init_79 (by decide) ?_
  refine b_ldc (v := 720720) C dX3_init_80 kc_X3_39 ?_
  refine b_world (w := wM (adL [h0, q1, q2, q3, q4, q5, q6, q7, q8, q9]) (caL [c1, c1, c2, c3, c4, c5, c6, c7, c8, c9] c1)) (tys := tyM (caL [c1, c1, c2, c3, c4, c5, c6, c7, c8, c9] c1)) (sameM _ _) (σ := st0) rfl hK9 hX hA (fun X => ?_)
  refine b_callWv (rest := []) C (sameM _ _) X dX3_init_82 (ctX3_begin hst) mf_X3_begin mi_X3_begin kl_X3_40 0 rfl rfl rfl rfl ⟨rfl, rfl⟩ ⟨Nat.le_of_ble_eq_true rfl, Nat.le_of_ble_eq_true rfl⟩ ⟨Nat.le_of_ble_eq_true rfl, Nat.le_of_ble_eq_true rfl⟩ rfl (Nat.le_of_ble_eq_true rfl) ?_
  refine b_unworld X ?_
  exact b_iend C hrt X.1.1 ⟨_, _, rfl, rfl⟩ (Nat.le_of_ble_eq_true rfl) (Nat.le_of_ble_eq_true rfl) dX3_init_85
