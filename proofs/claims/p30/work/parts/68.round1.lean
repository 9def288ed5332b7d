def rmL_round : Room := { frames := 6, cells := 1, slots := 20, locals := 159 }
def fL_round_66b (N : Nat) (q107 : St → (Nat → Int64) → Int32 → Int32 → Int32 → Int32 → Int32 → Option (Int32 × St)) (q66 : St → (Nat → Int64) → Int32 → Int32 → Int32 → Int32 → Int32 → Int32 → Option (Int32 × St)) (σ30 : St) (η31 : Nat → Int64) (x24 : Int32) (x25 : Int32) (x26 : Int32) (x27 : Int32) (x28 : Int32) (x29 : Int32) : Option (Int32 × St) :=
  if (2 : Int32) ≤ x29 then (
  q107 σ30 η31 x24 x25 x26 x27 x28)
  else (
  bd2 (fX2_strategy σ30 x28) fun r38 σ37 =>
  if r38 = (0 : Int32) then (
  bd2 (fL_due N σ37 x24 x25 x28 x29) fun r44 σ43 =>
  if ((((2 : Int32) * x28) + x29) < 0 ∨ 20 ≤ ((((2 : Int32) * x28) + x29)).toNatClampNeg) then none else
  lt1 (vp_updL η31 ((((2 : Int32) * x28) + x29)).toNatClampNeg r44) fun η47 =>
  lt1 (x29 + (1 : Int32)) fun x49 =>
  q66 σ43 η47 x24 x25 x26 x27 x28 x49)
  else (
  q107 σ37 η31 x24 x25 x26 x27 x28))
def fL_round_66 (N : Nat) (q107 : St → (Nat → Int64) → Int32 → Int32 → Int32 → Int32 → Int32 → Option (Int32 × St)) : Nat → St → (Nat → Int64) → Int32 → Int32 → Int32 → Int32 → Int32 → Int32 → Option (Int32 × St)
  | 0, _, _, _, _, _, _, _, _ => none
  | n + 1, σ, η, x24, x25, x26, x27, x28, x29 => fL_round_66b N q107 (fL_round_66 N q107 n) σ η x24 x25 x26 x27 x28 x29
def fL_round_57b (N : Nat) (q113 : St → (Nat → Int64) → Int32 → Int32 → Int32 → Int32 → Option (Int32 × St)) (q57 : St → (Nat → Int64) → Int32 → Int32 → Int32 → Int32 → Int32 → Option (Int32 × St)) (σ18 : St) (η19 : Nat → Int64) (x13 : Int32) (x14 : Int32) (x15 : Int32) (x16 : Int32) (x17 : Int32) : Option (Int32 × St) :=
  if x13 ≤ x17 then (
  q113 σ18 η19 x13 x14 x15 x16)
  else (
  fL_round_66 N (fun σ56 η57 x51 x52 x53 x54 x55 =>
 lt1 (x55 + (1 : Int32)) fun x59 =>
  q57 σ56 η57 x51 x52 x53 x54 x59) N σ18 η19 x13 x14 x15 x16 x17 (0 : Int32))
def fL_round_57 (N : Nat) (q113 : St → (Nat → Int64) → Int32 → Int32 → Int32 → Int32 → Option (Int32 × St)) : Nat → St → (Nat → Int64) → Int32 → Int32 → Int32 → Int32 → Int32 → Option (Int32 × St)
  | 0, _, _, _, _, _, _, _ => none
  | n + 1, σ, η, x13, x14, x15, x16, x17 => fL_round_57b N q113 (fL_round_57 N q113 n) σ η x13 x14 x15 x16 x17
def fL_round_228 (N : Nat) (q184 : St → (Nat → Int64) → Int32 → Int32 → Int32 → Int32 → Int64 → Int64 → Int64 → Int32 → Int32 → Option (Int32 × St)) (σ160 : St) (η161 : Nat → Int64) (x147 : Int32) (x148 : Int32) (x149 : Int32) (x150 : Int32) (x151 : Int64) (x152 : Int64) (x153 : Int64) (x154 : Int32) (x155 : Int32) (x156 : Int32) (x157 : Int32) (x158 : Int32) (x159 : Int64) : Option (Int32 × St) :=
  bd2 (fX2_value N σ160 x158 x157 x156 (1 : Int32)) fun r165 σ164 =>
  bd0 (fL_units x159 r165 (x150.toInt64)) fun r167 =>
  bd2 (fX2_strategy σ164 x154) fun r170 σ169 =>
  if r170 ≤ (0 : Int32) then (
  if ((((2 : Int32) * x154) + x155) < 0 ∨ 20 ≤ ((((2 : Int32) * x154) + x155)).toNatClampNeg) then none else
  if r167 = (η161 ((((2 : Int32) * x154) + x155)).toNatClampNeg) then (
  lt1 (x155 + (1 : Int32)) fun x179 =>
  q184 σ169 η161 x147 x148 x149 x150 x151 x152 x153 x154 x179)
  else (
  some ((0 : Int32), σ169)))
  else (
  bd0 (fL_none) fun r182 =>
  if r167 ≤ r182 then (
  lt1 (x155 + (1 : Int32)) fun x186 =>
  q184 σ169 η161 x147 x148 x149 x150 x151 x152 x153 x154 x186)
  else (
  some ((0 : Int32), σ169)))
def fL_round_207 (N : Nat) (q184 : St → (Nat → Int64) → Int32 → Int32 → Int32 → Int32 → Int64 → Int64 → Int64 → Int32 → Int32 → Option (Int32 × St)) (σ138 : St) (η139 : Nat → Int64) (x126 : Int32) (x127 : Int32) (x128 : Int32) (x129 : Int32) (x130 : Int64) (x131 : Int64) (x132 : Int64) (x133 : Int32) (x134 : Int32) (x135 : Int32) (x136 : Int32) (x137 : Int32) : Option (Int32 × St) :=
  bd2 (fX2_value N σ138 x137 x136 x135 (0 : Int32)) fun r143 σ142 =>
  if x134 = (1 : Int32) then (
  fL_round_228 N q184 σ142 η139 x126 x127 x128 x129 x130 x131 x132 x133 x134 (1 : Int32) (x128 + (1 : Int32)) x133 r143)
  else (
  fL_round_228 N q184 σ142 η139 x126 x127 x128 x129 x130 x131 x132 x133 x134 (0 : Int32) (x128 + (1 : Int32)) x133 r143)
def fL_round_184b (N : Nat) (q285 : St → (Nat → Int64) → Int32 → Int32 → Int32 → Int32 → Int64 → Int64 → Int64 → Int32 → Option (Int32 × St)) (q184 : St → (Nat → Int64) → Int32 → Int32 → Int32 → Int32 → Int64 → Int64 → Int64 → Int32 → Int32 → Option (Int32 × St)) (σ117 : St) (η118 : Nat → Int64) (x108 : Int32) (x109 : Int32) (x110 : Int32) (x111 : Int32) (x112 : Int64) (x113 : Int64) (x114 : Int64) (x115 : Int32) (x116 : Int32) : Option (Int32 × St) :=
  if (2 : Int32) ≤ x116 then (
  q285 σ117 η118 x108 x109 x110 x111 x112 x113 x114 x115)
  else (
  if x116 = (1 : Int32) then (
  fL_round_207 N q184 σ117 η118 x108 x109 x110 x111 x112 x113 x114 x115 x116 (1 : Int32) (x110 + (1 : Int32)) x115)
  else (
  fL_round_207 N q184 σ117 η118 x108 x109 x110 x111 x112 x113 x114 x115 x116 (0 : Int32) (x110 + (1 : Int32)) x115))
def fL_round_184 (N : Nat) (q285 : St → (Nat → Int64) → Int32 → Int32 → Int32 → Int32 → Int64 → Int64 → Int64 → Int32 → Option (Int32 × St)) : Nat → St → (Nat → Int64) → Int32 → Int32 → Int32 → Int32 → Int64 → Int64 → Int64 → Int32 → Int32 → Option (Int32 × St)
  | 0, _, _, _, _, _, _, _, _, _, _, _ => none
  | n + 1, σ, η, x108, x109, x110, x111, x112, x113, x114, x115, x116 => fL_round_184b N q285 (fL_round_184 N q285 n) σ η x108 x109 x110 x111 x112 x113 x114 x115 x116
def fL_round_175b (N : Nat) (q291 : St → (Nat → Int64) → Int32 → Int32 → Int32 → Int32 → Int64 → Int64 → Int64 → Option (Int32 × St)) (q175 : St → (Nat → Int64) → Int32 → Int32 → Int32 → Int32 → Int64 → Int64 → Int64 → Int32 → Option (Int32 × St)) (σ102 : St) (η103 : Nat → Int64) (x94 : Int32) (x95 : Int32) (x96 : Int32) (x97 : Int32) (x98 : Int64) (x99 : Int64) (x100 : Int64) (x101 : Int32) : Option (Int32 × St) :=
  if x94 ≤ x101 then (
  q291 σ102 η103 x94 x95 x96 x97 x98 x99 x100)
  else (
  fL_round_184 N (fun σ196 η197 x188 x189 x190 x191 x192 x193 x194 x195 =>
 lt1 (x195 + (1 : Int32)) fun x199 =>
  q175 σ196 η197 x188 x189 x190 x191 x192 x193 x194 x199) N σ102 η103 x94 x95 x96 x97 x98 x99 x100 x101 (0 : Int32))
def fL_round_175 (N : Nat) (q291 : St → (Nat → Int64) → Int32 → Int32 → Int32 → Int32 → Int64 → Int64 → Int64 → Option (Int32 × St)) : Nat → St → (Nat → Int64) → Int32 → Int32 → Int32 → Int32 → Int64 → Int64 → Int64 → Int32 → Option (Int32 × St)
  | 0, _, _, _, _, _, _, _, _, _, _ => none
  | n + 1, σ, η, x94, x95, x96, x97, x98, x99, x100, x101 => fL_round_175b N q291 (fL_round_175 N q291 n) σ η x94 x95 x96 x97 x98 x99 x100 x101
def fL_round_441 (N : Nat) (σ265 : St) (η266 : Nat → Int64) (x264 : Int32) : Option (Int32 × St) :=
  bd2 (fX2_rate N σ265 (0 : Int32) (1 : Int32)) fun r270 σ269 =>
  bd0 (fL_none) fun r272 =>
  if r272 ≤ r270 then (
  some ((0 : Int32), σ269))
  else (
  bd2 (fX2_width N σ269 (x264 + (2 : Int32)) (1 : Int32)) fun r278 σ277 =>
  bd0 (fL_none) fun r280 =>
  if r280 ≤ r278 then (
  some ((0 : Int32), σ277))
  else (
  some ((1 : Int32), σ277)))
def fL_round_418 (N : Nat) (σ252 : St) (η253 : Nat → Int64) (x249 : Int32) (x250 : Int32) (x251 : Int32) : Option (Int32 × St) :=
  if x251 = (0 : Int32) then (
  some ((0 : Int32), σ252))
  else (
  bd2 (fX2_count N σ252 (4 : Int32)) fun r260 σ259 =>
  if x249 < r260 then (
  fL_round_441 N σ259 η253 x250)
  else (
  bd2 (fX2_outside N σ259) fun r286 σ285 =>
  if r286 = (0 : Int32) then (
  fL_round_441 N σ285 η253 x250)
  else (
  some ((0 : Int32), σ285))))
def fL_round_357 (N : Nat) (σ234 : St) (η235 : Nat → Int64) (x230 : Int32) (x231 : Int32) (x232 : Int64) (x233 : Int64) : Option (Int32 × St) :=
  if x232 = (0 : Int64) then (
  bd2 (fX2_rate N σ234 (x231 + (1 : Int32)) (1 : Int32)) fun r292 σ291 =>
  bd0 (fL_none) fun r294 =>
  if r294 ≤ r292 then (
  fL_round_418 N σ291 η235 x230 x231 (0 : Int32))
  else (
  fL_round_418 N σ291 η235 x230 x231 (1 : Int32)))
  else (
  bd2 (fX2_rate N σ234 (x231 + (1 : Int32)) (0 : Int32)) fun r242 σ241 =>
  bd2 (fX2_rate N σ241 (x231 + (1 : Int32)) (1 : Int32)) fun r245 σ244 =>
  if (r242 * x232) = (x233 * r245) then (
  fL_round_418 N σ244 η235 x230 x231 (1 : Int32))
  else (
  fL_round_418 N σ244 η235 x230 x231 (0 : Int32)))
def fL_round (N : Nat) (σ : St) (a1 : Int32) (a2 : Int32) : Option (Int32 × St) :=
  bd2 (fX2_count N σ (3 : Int32)) fun r6 σ5 =>
  bd2 (fX2_count N σ5 (2 : Int32)) fun r9 σ8 =>
  if r6 = (60 : Int32) then (
  bd2 (fX2_run N σ8 (1 : Int32)) fun r303 σ302 =>
  if r303 = (-1004 : Int32) then (
  bd2 (fX2_back σ302 (61 : Int32)) fun r309 σ308 =>
  if r309 = (-1002 : Int32) then (
  some ((1 : Int32), σ308))
  else (
  some ((0 : Int32), σ308)))
  else (
  some ((0 : Int32), σ302)))
  else (
  fL_round_57 N (fun σ65 η66 x61 x62 x63 x64 =>
 bd2 (fX2_guarantee N σ65 (0 : Int32)) fun r70 σ69 =>
  bd2 (fX2_guarantee N σ69 (1 : Int32)) fun r73 σ72 =>
  bd2 (fL_width N σ72 x61 x63) fun r76 σ75 =>
  bd2 (fX2_run N σ75 (1 : Int32)) fun r79 σ78 =>
  if r79 = (x63 + (1 : Int32)) then (
  bd2 (fX2_width N σ78 x63 (0 : Int32)) fun r85 σ84 =>
  bd2 (fX2_width N σ84 x63 (1 : Int32)) fun r88 σ87 =>
  bd0 (fL_units r85 r88 (x64.toInt64)) fun r90 =>
  if r90 = r76 then (
  fL_round_175 N (fun σ208 η209 x201 x202 x203 x204 x205 x206 x207 =>
 bd2 (fL_width N σ208 x201 (x203 + (1 : Int32))) fun r213 σ212 =>
  bd2 (fX2_width N σ212 (x203 + (1 : Int32)) (0 : Int32)) fun r216 σ215 =>
  bd2 (fX2_width N σ215 (x203 + (1 : Int32)) (1 : Int32)) fun r219 σ218 =>
  bd0 (fL_units r216 r219 (x204.toInt64)) fun r221 =>
  if r221 = r213 then (
  bd0 (fL_none) fun r226 =>
  if x205 ≤ r226 then (
  fL_round_357 N σ218 η209 x202 x203 x207 r213)
  else (
  if (r213 * x206) ≤ ((x205 * x207) + x206) then (
  fL_round_357 N σ218 η209 x202 x203 x207 r213)
  else (
  some ((0 : Int32), σ218))))
  else (
  some ((0 : Int32), σ218))) N σ87 η66 x61 x62 x63 x64 r70 r73 r76 (0 : Int32))
  else (
  some ((0 : Int32), σ87)))
  else (
  some ((0 : Int32), σ78))) N σ8 nz a1 a2 r6 r9 (0 : Int32))
theorem wL_round_66 {l : Launch} {p : Program} {e : Env} {s : State} {m : MethodId} {args : Array Value} {below : List Frame} {meth : Method} {c : Code} {nx : Nat} {cn : ClassId} {D : va_G} {A : Nat → Prop} {ad : Nat → Nat} {ca : Nat → ClassId} {rf : Int32} {σf : St} (C : Cb p s m args meth c RL cL_round 16) (X : Cx s D A (wX ad ca) (tyX ca)) (hr : meth.sig.returnType = (some .boolean)) (XN : Nxt s D A ad ca nx cn) {N : Nat} {q107 : St → (Nat → Int64) → Int32 → Int32 → Int32 → Int32 → Int32 → Option (Int32 × St)} (hq107 : ∀ (σ : St) (η : Nat → Int64) (y0 : Int32) (y1 : Int32) (y2 : Int32) (y3 : Int32) (y4 : Int32), q107 σ η y0 y1 y2 y3 y4 = some (rf, σf) → bW p l e rmL_round s m args below meth c 1 20 (MQ below (Qw D (wX ad ca) σf (some (.int rf)) A) args s 1 20 A) 16 (wl D A s (wX ad ca) σ (wNx nx cn η)) 107 [(0, .ref (ad 0)), (1, .int y0), (2, .int y1), (3, .int y2), (4, .int y3), (5, .ref nx), (6, .int y4)] []) : ∀ n : Nat, ∀ (σ : St) (η : Nat → Int64) (y0 : Int32) (y1 : Int32) (y2 : Int32) (y3 : Int32) (y4 : Int32) (y5 : Int32), fL_round_66 N q107 n σ η y0 y1 y2 y3 y4 y5 = some (rf, σf) → bW p l e rmL_round s m args below meth c 1 20 (MQ below (Qw D (wX ad ca) σf (some (.int rf)) A) args s 1 20 A) 16 (wl D A s (wX ad ca) σ (wNx nx cn η)) 66 [(0, .ref (ad 0)), (1, .int y0), (2, .int y1), (3, .int y2), (4, .int y3), (5, .ref nx), (6, .int y4), (7, .int y5)] [] := by
  intro n
  induction n with
  | zero => intro σ30 η31 x24 x25 x26 x27 x28 x29 h32; exact nn h32
  | succ n hq66 =>
    intro σ30 η31 x24 x25 x26 x27 x28 x29 h32
    replace h32 : fL_round_66b N q107 (fL_round_66 N q107 n) σ30 η31 x24 x25 x26 x27 x28 x29 = some (rf, σf) := h32
    refine b_iload C 7 dL_round_66 rfl ?_
    refine b_iconst (v := (2 : Int32)) C dL_round_68 (by decide) ?_
    refine b_icmp_ge (tgt := 107) C dL_round_69 (by decide) (fun c33 => ?_) (fun c33 => ?_)
    · have h34 := ipos h32 c33; clear h32
      exact b_sub [0, 1, 2, 3, 4, 5, 6] rfl (hq107 _ _ _ _ _ _ _ h34)
    have h35 := ineg h32 c33; clear h32
    refine b_aload_n C 0 dL_round_72 rfl rfl ?_
    refine b_iload C 6 dL_round_73 rfl ?_
    obtain ⟨r38, σ37, ec36, h36⟩ := bd2_inv h35; clear h35
    refine b_callLi (rest := []) C (sameX ad ca) X (fun i j p q hi hj => XN.dj i j p q hi hj) dL_round_75 (ctX2_strategy ec36) mf_X2_strategy mi_X2_strategy kl_L_58 0 rfl rfl rfl rfl ⟨rfl, rfl⟩ ⟨Nat.le_of_ble_eq_true rfl, Nat.le_of_ble_eq_true rfl⟩ ⟨Nat.le_of_ble_eq_true rfl, Nat.le_of_ble_eq_true rfl⟩ rfl (Nat.le_of_ble_eq_true rfl) ?_
    refine b_if_ne (tgt := 107) C dL_round_78 (by decide) (fun c39 => ?_) (fun c39 => ?_)
    · have h40 := ineg h36 c39; clear h36
      exact b_sub [0, 1, 2, 3, 4, 5, 6] rfl (hq107 _ _ _ _ _ _ _ h40)
    have h41 := ipos h36 c39; clear h36
    refine b_aload C 5 dL_round_81 rfl ?_
    refine b_iconst (v := (2 : Int32)) C dL_round_83 (by decide) ?_
    refine b_iload C 6 dL_round_84 rfl ?_
    refine b_imul C dL_round_86 ?_
    refine b_iload C 7 dL_round_87 rfl ?_
    refine b_iadd C dL_round_89 ?_
    refine b_aload_n C 0 dL_round_90 rfl rfl ?_
    refine b_iload_n C 1 dL_round_91 rfl rfl ?_
    refine b_iload_n C 2 dL_round_92 rfl rfl ?_
    refine b_iload C 6 dL_round_93 rfl ?_
    refine b_iload C 7 dL_round_95 rfl ?_
    obtain ⟨r44, σ43, ec42, h42⟩ := bd2_inv h41; clear h41
    refine b_callSLl (rest := [.int (((2 : Int32) * x28) + x29), .ref nx]) C (sameX ad ca) X (fun i j p q hi hj => XN.dj i j p q hi hj) dL_round_97 (ctL_due ec42) mf_L_due ms_L_due kl_L_83 rfl ⟨rfl, rfl⟩ ⟨Nat.le_of_ble_eq_true rfl, Nat.le_of_ble_eq_true rfl⟩ ⟨Nat.le_of_ble_eq_true rfl, Nat.le_of_ble_eq_true rfl⟩ rfl (Nat.le_of_ble_eq_true rfl) ?_
    obtain ⟨g46, h45⟩ := gdn h42; clear h42
    refine b_lastN C XN g46 dL_round_100 ?_
    obtain ⟨η47, eη47, h48⟩ := lt1_inv h45; clear h45
    refine b_nmE eη47 ?_
    obtain ⟨x49, ex49, h50⟩ := lt1_inv h48; clear h48
    refine b_iinc (v := x49) (lv' := [(7, .int x49), (0, .ref (ad 0)), (1, .int x24), (2, .int x25), (3, .int x26), (4, .int x27), (5, .ref nx), (6, .int x28)]) C 7 dL_round_101 rfl (by rw [ex49]; rfl) (by decide) rfl ?_
    refine b_goto (tgt := 66) C dL_round_104 (by decide) ?_
    exact b_sub [1, 2, 3, 4, 5, 6, 7, 0] rfl (hq66 _ _ _ _ _ _ _ _ h50)
theorem wL_round_57 {l : Launch} {p : Program} {e : Env} {s : State} {m : MethodId} {args : Array Value} {below : List Frame} {meth : Method} {c : Code} {nx : Nat} {cn : ClassId} {D : va_G} {A : Nat → Prop} {ad : Nat → Nat} {ca : Nat → ClassId} {rf : Int32} {σf : St} (C : Cb p s m args meth c RL cL_round 16) (X : Cx s D A (wX ad ca) (tyX ca)) (hr : meth.sig.returnType = (some .boolean)) (XN : Nxt s D A ad ca nx cn) {N : Nat} {q113 : St → (Nat → Int64) → Int32 → Int32 → Int32 → Int32 → Option (Int32 × St)} (hq113 : ∀ (σ : St) (η : Nat → Int64) (y0 : Int32) (y1 : Int32) (y2 : Int32) (y3 : Int32), q113 σ η y0 y1 y2 y3 = some (rf, σf) → bW p l e rmL_round s m args below meth c 1 20 (MQ below (Qw D (wX ad ca) σf (some (.int rf)) A) args s 1 20 A) 16 (wl D A s (wX ad ca) σ (wNx nx cn η)) 113 [(0, .ref (ad 0)), (1, .int y0), (2, .int y1), (3, .int y2), (4, .int y3), (5, .ref nx)] []) : ∀ n : Nat, ∀ (σ : St) (η : Nat → Int64) (y0 : Int32) (y1 : Int32) (y2 : Int32) (y3 : Int32) (y4 : Int32), fL_round_57 N q113 n σ η y0 y1 y2 y3 y4 = some (rf, σf) → bW p l e rmL_round s m args below meth c 1 20 (MQ below (Qw D (wX ad ca) σf (some (.int rf)) A) args s 1 20 A) 16 (wl D A s (wX ad ca) σ (wNx nx cn η)) 57 [(0, .ref (ad 0)), (1, .int y0), (2, .int y1), (3, .int y2), (4, .int y3), (5, .ref nx), (6, .int y4)] [] := by
  intro n
  induction n with
  | zero => intro σ18 η19 x13 x14 x15 x16 x17 h20; exact nn h20
  | succ n hq57 =>
    intro σ18 η19 x13 x14 x15 x16 x17 h20
    replace h20 : fL_round_57b N q113 (fL_round_57 N q113 n) σ18 η19 x13 x14 x15 x16 x17 = some (rf, σf) := h20
    refine b_iload C 6 dL_round_57 rfl ?_
    refine b_iload_n C 1 dL_round_59 rfl rfl ?_
    refine b_icmp_ge (tgt := 113) C dL_round_60 (by decide) (fun c21 => ?_) (fun c21 => ?_)
    · have h22 := ipos h20 c21; clear h20
      exact b_sub [0, 1, 2, 3, 4, 5] rfl (hq113 _ _ _ _ _ _ h22)
    have h23 := ineg h20 c21; clear h20
    refine b_iconst (v := (0 : Int32)) C dL_round_63 (by decide) ?_
    refine b_istore (lv' := [(7, .int (0 : Int32)), (0, .ref (ad 0)), (1, .int x13), (2, .int x14), (3, .int x15), (4, .int x16), (5, .ref nx), (6, .int x17)]) C dL_round_64 (by decide) rfl ?_
    refine b_sub [1, 2, 3, 4, 5, 6, 7, 0] rfl (wL_round_66 C X hr XN (fun σ56 η57 x51 x52 x53 x54 x55 h58 => ?_) _ _ _ _ _ _ _ _ _ h23)
    obtain ⟨x59, ex59, h60⟩ := lt1_inv h58; clear h58
    refine b_iinc (v := x59) (lv' := [(6, .int x59), (0, .ref (ad 0)), (1, .int x51), (2, .int x52), (3, .int x53), (4, .int x54), (5, .ref nx)]) C 6 dL_round_107 rfl (by rw [ex59]; rfl) (by decide) rfl ?_
    refine b_goto (tgt := 57) C dL_round_110 (by decide) ?_
    exact b_sub [1, 2, 3, 4, 5, 6, 0] rfl (hq57 _ _ _ _ _ _ _ h60)
theorem wL_round_228 {l : Launch} {p : Program} {e : Env} {s : State} {m : MethodId} {args : Array Value} {below : List Frame} {meth : Method} {c : Code} {nx : Nat} {cn : ClassId} {D : va_G} {A : Nat → Prop} {ad : Nat → Nat} {ca : Nat → ClassId} {rf : Int32} {σf : St} (C : Cb p s m args meth c RL cL_round 16) (X : Cx s D A (wX ad ca) (tyX ca)) (hr : meth.sig.returnType = (some .boolean)) (XN : Nxt s D A ad ca nx cn) {N : Nat} {q184 : St → (Nat → Int64) → Int32 → Int32 → Int32 → Int32 → Int64 → Int64 → Int64 → Int32 → Int32 → Option (Int32 × St)} (hq184 : ∀ (σ : St) (η : Nat → Int64) (y0 : Int32) (y1 : Int32) (y2 : Int32) (y3 : Int32) (y4 : Int64) (y5 : Int64) (y6 : Int64) (y7 : Int32) (y8 : Int32), q184 σ η y0 y1 y2 y3 y4 y5 y6 y7 y8 = some (rf, σf) → bW p l e rmL_round s m args below meth c 1 20 (MQ below (Qw D (wX ad ca) σf (some (.int rf)) A) args s 1 20 A) 16 (wl D A s (wX ad ca) σ (wNx nx cn η)) 184 [(0, .ref (ad 0)), (1, .int y0), (2, .int y1), (3, .int y2), (4, .int y3), (5, .ref nx), (6, .long y4), (8, .long y5), (10, .long y6), (12, .int y7), (13, .int y8)] []) : ∀ (σ : St) (η : Nat → Int64) (y0 : Int32) (y1 : Int32) (y2 : Int32) (y3 : Int32) (y4 : Int64) (y5 : Int64) (y6 : Int64) (y7 : Int32) (y8 : Int32) (y9 : Int32) (y10 : Int32) (y11 : Int32) (y12 : Int64), fL_round_228 N q184 σ η y0 y1 y2 y3 y4 y5 y6 y7 y8 y9 y10 y11 y12 = some (rf, σf) → bW p l e rmL_round s m args below meth c 1 20 (MQ below (Qw D (wX ad ca) σf (some (.int rf)) A) args s 1 20 A) 16 (wl D A s (wX ad ca) σ (wNx nx cn η)) 228 [(0, .ref (ad 0)), (1, .int y0), (2, .int y1), (3, .int y2), (4, .int y3), (5, .ref nx), (6, .long y4), (8, .long y5), (10, .long y6), (12, .int y7), (13, .int y8)] [.int y9, .int y10, .int y11, .ref (ad 0), .long y12] := by
  intro σ160 η161 x147 x148 x149 x150 x151 x152 x153 x154 x155 x156 x157 x158 x159 h162
  refine b_iconst (v := (1 : Int32)) C dL_round_228 (by decide) ?_
  obtain ⟨r165, σ164, ec163, h163⟩ := bd2_inv h162; clear h162
  refine b_callLl (rest := [.long x159]) C (sameX ad ca) X (fun i j p q hi hj => XN.dj i j p q hi hj) dL_round_229 (ctX2_value ec163) mf_X2_value mi_X2_value kl_L_61 0 rfl rfl rfl rfl ⟨rfl, rfl⟩ ⟨Nat.le_of_ble_eq_true rfl, Nat.le_of_ble_eq_true rfl⟩ ⟨Nat.le_of_ble_eq_true rfl, Nat.le_of_ble_eq_true rfl⟩ rfl (Nat.le_of_ble_eq_true rfl) ?_
  refine b_iload C 4 dL_round_232 rfl ?_
  refine b_i2l C dL_round_234 ?_
  obtain ⟨r167, ec166, h166⟩ := bd0_inv h163; clear h163
  refine b_callSl (rest := []) C dL_round_235 (ctL_units ec166) mf_L_units ms_L_units kl_L_54 rfl ⟨rfl, rfl⟩ ⟨Nat.le_of_ble_eq_true rfl, Nat.le_of_ble_eq_true rfl⟩ ⟨Nat.le_of_ble_eq_true rfl, Nat.le_of_ble_eq_true rfl⟩ rfl (Nat.le_of_ble_eq_true rfl) ?_
  refine b_lstore (lv' := [(14, .long r167), (0, .ref (ad 0)), (1, .int x147), (2, .int x148), (3, .int x149), (4, .int x150), (5, .ref nx), (6, .long x151), (8, .long x152), (10, .long x153), (12, .int x154), (13, .int x155)]) C dL_round_238 (by decide) rfl ?_
  refine b_aload_n C 1 dL_round_240 rfl rfl ?_
  refine b_iload C 10 dL_round_241 rfl ?_
  obtain ⟨r170, σ169, ec168, h168⟩ := bd2_inv h166; clear h166
  refine b_callLi (rest := []) C (sameX ad ca) X (fun i j p q hi hj => XN.dj i j p q hi hj) dL_round_243 (ctX2_strategy ec168) mf_X2_strategy mi_X2_strategy kl_L_58 0 rfl rfl rfl rfl ⟨rfl, rfl⟩ ⟨Nat.le_of_ble_eq_true rfl, Nat.le_of_ble_eq_true rfl⟩ ⟨Nat.le_of_ble_eq_true rfl, Nat.le_of_ble_eq_true rfl⟩ rfl (Nat.le_of_ble_eq_true rfl) ?_
  refine b_if_le (tgt := 261) C dL_round_246 (by decide) (fun c171 => ?_) (fun c171 => ?_)
  · have h172 := ipos h168 c171; clear h168
    refine b_lload C 0 dL_round_261 rfl ?_
    refine b_aload C 6 dL_round_263 rfl ?_
    refine b_iconst (v := (2 : Int32)) C dL_round_265 (by decide) ?_
    refine b_iload C 10 dL_round_266 rfl ?_
    refine b_imul C dL_round_268 ?_
    refine b_iload C 11 dL_round_269 rfl ?_
    refine b_iadd C dL_round_271 ?_
    obtain ⟨g175, h174⟩ := gdn h172; clear h172
    refine b_laldN C XN g175 dL_round_272 ?_
    refine b_lc_eq (tgt := 279) C dL_round_273 dL_round_274 (by decide) (fun c176 => ?_) (fun c176 => ?_)
    · have h177 := ipos h174 c176; clear h174
      obtain ⟨x179, ex179, h180⟩ := lt1_inv h177; clear h177
      refine b_iinc (v := x179) (lv' := [(13, .int x179), (14, .long r167), (0, .ref (ad 0)), (1, .int x147), (2, .int x148), (3, .int x149), (4, .int x150), (5, .ref nx), (6, .long x151), (8, .long x152), (10, .long x153), (12, .int x154)]) C 11 dL_round_279 rfl (by rw [ex179]; rfl) (by decide) rfl ?_
      refine b_goto (tgt := 184) C dL_round_282 (by decide) ?_
      exact b_sub [2, 3, 4, 5, 6, 7, 8, 9, 10, 11, 0] rfl (hq184 _ _ _ _ _ _ _ _ _ _ _ h180)
    have h178 := ineg h174 c176; clear h174
    refine b_iconst (v := (0 : Int32)) C dL_round_277 (by decide) ?_
    obtain ⟨rfl, rfl⟩ := so2 h178
    exact b_lw (n_zret C 1 20 (by decide) (by decide) dL_round_278 hr rfl)
  have h173 := ineg h168 c171; clear h168
  refine b_lload C 0 dL_round_249 rfl ?_
  obtain ⟨r182, ec181, h181⟩ := bd0_inv h173; clear h173
  refine b_callSl (rest := [.long r167]) C dL_round_251 (ctL_none ec181) mf_L_none ms_L_none kl_L_11 rfl ⟨rfl, rfl⟩ ⟨Nat.le_of_ble_eq_true rfl, Nat.le_of_ble_eq_true rfl⟩ ⟨Nat.le_of_ble_eq_true rfl, Nat.le_of_ble_eq_true rfl⟩ rfl (Nat.le_of_ble_eq_true rfl) ?_
  refine b_lc_le (tgt := 279) C dL_round_254 dL_round_255 (by decide) (fun c183 => ?_) (fun c183 => ?_)
  · have h184 := ipos h181 c183; clear h181
    obtain ⟨x186, ex186, h187⟩ := lt1_inv h184; clear h184
    refine b_iinc (v := x186) (lv' := [(13, .int x186), (14, .long r167), (0, .ref (ad 0)), (1, .int x147), (2, .int x148), (3, .int x149), (4, .int x150), (5, .ref nx), (6, .long x151), (8, .long x152), (10, .long x153), (12, .int x154)]) C 11 dL_round_279 rfl (by rw [ex186]; rfl) (by decide) rfl ?_
    refine b_goto (tgt := 184) C dL_round_282 (by decide) ?_
    exact b_sub [2, 3, 4, 5, 6, 7, 8, 9, 10, 11, 0] rfl (hq184 _ _ _ _ _ _ _ _ _ _ _ h187)
  have h185 := ineg h181 c183; clear h181
  refine b_goto (tgt := 277) C dL_round_258 (by decide) ?_
  refine b_iconst (v := (0 : Int32)) C dL_round_277 (by decide) ?_
  obtain ⟨rfl, rfl⟩ := so2 h185
  exact b_lw (n_zret C 1 20 (by decide) (by decide) dL_round_278 hr rfl)
theorem wL_round_207 {l : Launch} {p : Program} {e : Env} {s : State} {m : MethodId} {args : Array Value} {below : List Frame} {meth : Method} {c : Code} {nx : Nat} {cn : ClassId} {D : va_G} {A : Nat → Prop} {ad : Nat → Nat} {ca : Nat → ClassId} {rf : Int32} {σf : St} (C : Cb p s m args meth c RL cL_round 16) (X : Cx s D A (wX ad ca) (tyX ca)) (hr : meth.sig.returnType = (some .boolean)) (XN : Nxt s D A ad ca nx cn) {N : Nat} {q184 : St → (Nat → Int64) → Int32 → Int32 → Int32 → Int32 → Int64 → Int64 → Int64 → Int32 → Int32 → Option (Int32 × St)} (hq184 : ∀ (σ : St) (η : Nat → Int64) (y0 : Int32) (y1 : Int32) (y2 : Int32) (y3 : Int32) (y4 : Int64) (y5 : Int64) (y6 : Int64) (y7 : Int32) (y8 : Int32), q184 σ η y0 y1 y2 y3 y4 y5 y6 y7 y8 = some (rf, σf) → bW p l e rmL_round s m args below meth c 1 20 (MQ below (Qw D (wX ad ca) σf (some (.int rf)) A) args s 1 20 A) 16 (wl D A s (wX ad ca) σ (wNx nx cn η)) 184 [(0, .ref (ad 0)), (1, .int y0), (2, .int y1), (3, .int y2), (4, .int y3), (5, .ref nx), (6, .long y4), (8, .long y5), (10, .long y6), (12, .int y7), (13, .int y8)] []) : ∀ (σ : St) (η : Nat → Int64) (y0 : Int32) (y1 : Int32) (y2 : Int32) (y3 : Int32) (y4 : Int64) (y5 : Int64) (y6 : Int64) (y7 : Int32) (y8 : Int32) (y9 : Int32) (y10 : Int32) (y11 : Int32), fL_round_207 N q184 σ η y0 y1 y2 y3 y4 y5 y6 y7 y8 y9 y10 y11 = some (rf, σf) → bW p l e rmL_round s m args below meth c 1 20 (MQ below (Qw D (wX ad ca) σf (some (.int rf)) A) args s 1 20 A) 16 (wl D A s (wX ad ca) σ (wNx nx cn η)) 207 [(0, .ref (ad 0)), (1, .int y0), (2, .int y1), (3, .int y2), (4, .int y3), (5, .ref nx), (6, .long y4), (8, .long y5), (10, .long y6), (12, .int y7), (13, .int y8)] [.int y9, .int y10, .int y11, .ref (ad 0)] := by
  intro σ138 η139 x126 x127 x128 x129 x130 x131 x132 x133 x134 x135 x136 x137 h140
  refine b_iconst (v := (0 : Int32)) C dL_round_207 (by decide) ?_
  obtain ⟨r143, σ142, ec141, h141⟩ := bd2_inv h140; clear h140
  refine b_callLl (rest := []) C (sameX ad ca) X (fun i j p q hi hj => XN.dj i j p q hi hj) dL_round_208 (ctX2_value ec141) mf_X2_value mi_X2_value kl_L_61 0 rfl rfl rfl rfl ⟨rfl, rfl⟩ ⟨Nat.le_of_ble_eq_true rfl, Nat.le_of_ble_eq_true rfl⟩ ⟨Nat.le_of_ble_eq_true rfl, Nat.le_of_ble_eq_true rfl⟩ rfl (Nat.le_of_ble_eq_true rfl) ?_
  refine b_aload_n C 0 dL_round_211 rfl rfl ?_
  refine b_iload C 9 dL_round_212 rfl ?_
  refine b_iload_n C 3 dL_round_214 rfl rfl ?_
  refine b_iconst (v := (1 : Int32)) C dL_round_215 (by decide) ?_
  refine b_iadd C dL_round_216 ?_
  refine b_iload C 10 dL_round_217 rfl ?_
  refine b_iconst (v := (1 : Int32)) C dL_round_219 (by decide) ?_
  refine b_icmp_ne (tgt := 227) C dL_round_220 (by decide) (fun c144 => ?_) (fun c144 => ?_)
  · have h145 := ineg h141 c144; clear h141
    refine b_iconst (v := (0 : Int32)) C dL_round_227 (by decide) ?_
    exact b_sub [0, 1, 2, 3, 4, 5, 6, 7, 8, 9, 10] rfl (wL_round_228 C X hr XN hq184 _ _ _ _ _ _ _ _ _ _ _ _ _ _ _ h145)
  have h146 := ipos h141 c144; clear h141
  refine b_iconst (v := (1 : Int32)) C dL_round_223 (by decide) ?_
  refine b_goto (tgt := 228) C dL_round_224 (by decide) ?_
  exact b_sub [0, 1, 2, 3, 4, 5, 6, 7, 8, 9, 10] rfl (wL_round_228 C X hr XN hq184 _ _ _ _ _ _ _ _ _ _ _ _ _ _ _ h146)
theorem wL_round_184 {l : Launch} {p : Program} {e : Env} {s : State} {m : MethodId} {args : Array Value} {below : List Frame} {meth : Method} {c : Code} {nx : Nat} {cn : ClassId} {D : va_G} {A : Nat → Prop} {ad : Nat → Nat} {ca : Nat → ClassId} {rf : Int32} {σf : St} (C : Cb p s m args meth c RL cL_round 16) (X : Cx s D A (wX ad ca) (tyX ca)) (hr : meth.sig.returnType = (some .boolean)) (XN : Nxt s D A ad ca nx cn) {N : Nat} {q285 : St → (Nat → Int64) → Int32 → Int32 → Int32 → Int32 → Int64 → Int64 → Int64 → Int32 → Option (Int32 × St)} (hq285 : ∀ (σ : St) (η : Nat → Int64) (y0 : Int32) (y1 : Int32) (y2 : Int32) (y3 : Int32) (y4 : Int64) (y5 : Int64) (y6 : Int64) (y7 : Int32), q285 σ η y0 y1 y2 y3 y4 y5 y6 y7 = some (rf, σf) → bW p l e rmL_round s m args below meth c 1 20 (MQ below (Qw D (wX ad ca) σf (some (.int rf)) A) args s 1 20 A) 16 (wl D A s (wX ad ca) σ (wNx nx cn η)) 285 [(0, .ref (ad 0)), (1, .int y0), (2, .int y1), (3, .int y2), (4, .int y3), (5, .ref nx), (6, .long y4), (8, .long y5), (10, .long y6), (12, .int y7)] []) : ∀ n : Nat, ∀ (σ : St) (η : Nat → Int64) (y0 : Int32) (y1 : Int32) (y2 : Int32) (y3 : Int32) (y4 : Int64) (y5 : Int64) (y6 : Int64) (y7 : Int32) (y8 : Int32), fL_round_184 N q285 n σ η y0 y1 y2 y3 y4 y5 y6 y7 y8 = some (rf, σf) → bW p l e rmL_round s m args below meth c 1 20 (MQ below (Qw D (wX ad ca) σf (some (.int rf)) A) args s 1 20 A) 16 (wl D A s (wX ad ca) σ (wNx nx cn η)) 184 [(0, .ref (ad 0)), (1, .int y0), (2, .int y1), (3, .int y2), (4, .int y3), (5, .ref nx), (6, .long y4), (8, .long y5), (10, .long y6), (12, .int y7), (13, .int y8)] [] := by
  intro n
  induction n with
  | zero => intro σ117 η118 x108 x109 x110 x111 x112 x113 x114 x115 x116 h119; exact nn h119
  | succ n hq184 =>
    intro σ117 η118 x108 x109 x110 x111 x112 x113 x114 x115 x116 h119
    replace h119 : fL_round_184b N q285 (fL_round_184 N q285 n) σ117 η118 x108 x109 x110 x111 x112 x113 x114 x115 x116 = some (rf, σf) := h119
    refine b_iload C 10 dL_round_184 rfl ?_
    refine b_iconst (v := (2 : Int32)) C dL_round_186 (by decide) ?_
    refine b_icmp_ge (tgt := 285) C dL_round_187 (by decide) (fun c120 => ?_) (fun c120 => ?_)
    · have h121 := ipos h119 c120; clear h119
      exact b_sub [0, 1, 2, 3, 4, 5, 6, 7, 8, 9] rfl (hq285 _ _ _ _ _ _ _ _ _ _ h121)
    have h122 := ineg h119 c120; clear h119
    refine b_aload_n C 0 dL_round_190 rfl rfl ?_
    refine b_iload C 9 dL_round_191 rfl ?_
    refine b_iload_n C 3 dL_round_193 rfl rfl ?_
    refine b_iconst (v := (1 : Int32)) C dL_round_194 (by decide) ?_
    refine b_iadd C dL_round_195 ?_
    refine b_iload C 10 dL_round_196 rfl ?_
    refine b_iconst (v := (1 : Int32)) C dL_round_198 (by decide) ?_
    refine b_icmp_ne (tgt := 206) C dL_round_199 (by decide) (fun c123 => ?_) (fun c123 => ?_)
    · have h124 := ineg h122 c123; clear h122
      refine b_iconst (v := (0 : Int32)) C dL_round_206 (by decide) ?_
      exact b_sub [0, 1, 2, 3, 4, 5, 6, 7, 8, 9, 10] rfl (wL_round_207 C X hr XN hq184 _ _ _ _ _ _ _ _ _ _ _ _ _ _ h124)
    have h125 := ipos h122 c123; clear h122
    refine b_iconst (v := (1 : Int32)) C dL_round_202 (by decide) ?_
    refine b_goto (tgt := 207) C dL_round_203 (by decide) ?_
    exact b_sub [0, 1, 2, 3, 4, 5, 6, 7, 8, 9, 10] rfl (wL_round_207 C X hr XN hq184 _ _ _ _ _ _ _ _ _ _ _ _ _ _ h125)
theorem wL_round_175 {l : Launch} {p : Program} {e : Env} {s : State} {m : MethodId} {args : Array Value} {below : List Frame} {meth : Method} {c : Code} {nx : Nat} {cn : ClassId} {D : va_G} {A : Nat → Prop} {ad : Nat → Nat} {ca : Nat → ClassId} {rf : Int32} {σf : St} (C : Cb p s m args meth c RL cL_round 16) (X : Cx s D A (wX ad ca) (tyX ca)) (hr : meth.sig.returnType = (some .boolean)) (XN : Nxt s D A ad ca nx cn) {N : Nat} {q291 : St → (Nat → Int64) → Int32 → Int32 → Int32 → Int32 → Int64 → Int64 → Int64 → Option (Int32 × St)} (hq291 : ∀ (σ : St) (η : Nat → Int64) (y0 : Int32) (y1 : Int32) (y2 : Int32) (y3 : Int32) (y4 : Int64) (y5 : Int64) (y6 : Int64), q291 σ η y0 y1 y2 y3 y4 y5 y6 = some (rf, σf) → bW p l e rmL_round s m args below meth c 1 20 (MQ below (Qw D (wX ad ca) σf (some (.int rf)) A) args s 1 20 A) 16 (wl D A s (wX ad ca) σ (wNx nx cn η)) 291 [(0, .ref (ad 0)), (1, .int y0), (2, .int y1), (3, .int y2), (4, .int y3), (6, .long y4), (8, .long y5), (10, .long y6)] []) : ∀ n : Nat, ∀ (σ : St) (η : Nat → Int64) (y0 : Int32) (y1 : Int32) (y2 : Int32) (y3 : Int32) (y4 : Int64) (y5 : Int64) (y6 : Int64) (y7 : Int32), fL_round_175 N q291 n σ η y0 y1 y2 y3 y4 y5 y6 y7 = some (rf, σf) → bW p l e rmL_round s m args below meth c 1 20 (MQ below (Qw D (wX ad ca) σf (some (.int rf)) A) args s 1 20 A) 16 (wl D A s (wX ad ca) σ (wNx nx cn η)) 175 [(0, .ref (ad 0)), (1, .int y0), (2, .int y1), (3, .int y2), (4, .int y3), (5, .ref nx), (6, .long y4), (8, .long y5), (10, .long y6), (12, .int y7)] [] := by
  intro n
  induction n with
  | zero => intro σ102 η103 x94 x95 x96 x97 x98 x99 x100 x101 h104; exact nn h104
  | succ n hq175 =>
    intro σ102 η103 x94 x95 x96 x97 x98 x99 x100 x101 h104
    replace h104 : fL_round_175b N q291 (fL_round_175 N q291 n) σ102 η103 x94 x95 x96 x97 x98 x99 x100 x101 = some (rf, σf) := h104
    refine b_iload C 9 dL_round_175 rfl ?_
    refine b_iload_n C 1 dL_round_177 rfl rfl ?_
    refine b_icmp_ge (tgt := 291) C dL_round_178 (by decide) (fun c105 => ?_) (fun c105 => ?_)
    · have h106 := ipos h104 c105; clear h104
      exact b_sub [0, 1, 2, 3, 4, 6, 7, 8] rfl (hq291 _ _ _ _ _ _ _ _ _ h106)
    have h107 := ineg h104 c105; clear h104
    refine b_iconst (v := (0 : Int32)) C dL_round_181 (by decide) ?_
    refine b_istore (lv' := [(13, .int (0 : Int32)), (0, .ref (ad 0)), (1, .int x94), (2, .int x95), (3, .int x96), (4, .int x97), (5, .ref nx), (6, .long x98), (8, .long x99), (10, .long x100), (12, .int x101)]) C dL_round_182 (by decide) rfl ?_
    refine b_sub [1, 2, 3, 4, 5, 6, 7, 8, 9, 10, 0] rfl (wL_round_184 C X hr XN (fun σ196 η197 x188 x189 x190 x191 x192 x193 x194 x195 h198 => ?_) _ _ _ _ _ _ _ _ _ _ _ _ h107)
    obtain ⟨x199, ex199, h200⟩ := lt1_inv h198; clear h198
    refine b_iinc (v := x199) (lv' := [(12, .int x199), (0, .ref (ad 0)), (1, .int x188), (2, .int x189), (3, .int x190), (4, .int x191), (5, .ref nx), (6, .long x192), (8, .long x193), (10, .long x194)]) C 9 dL_round_285 rfl (by rw [ex199]; rfl) (by decide) rfl ?_
    refine b_goto (tgt := 175) C dL_round_288 (by decide) ?_
    exact b_sub [1, 2, 3, 4, 5, 6, 7, 8, 9, 0] rfl (hq175 _ _ _ _ _ _ _ _ _ _ h200)
theorem wL_round_441 {l : Launch} {p : Program} {e : Env} {s : State} {m : MethodId} {args : Array Value} {below : List Frame} {meth : Method} {c : Code} {nx : Nat} {cn : ClassId} {D : va_G} {A : Nat → Prop} {ad : Nat → Nat} {ca : Nat → ClassId} {rf : Int32} {σf : St} (C : Cb p s m args meth c RL cL_round 16) (X : Cx s D A (wX ad ca) (tyX ca)) (hr : meth.sig.returnType = (some .boolean)) (XN : Nxt s D A ad ca nx cn) {N : Nat} : ∀ (σ : St) (η : Nat → Int64) (y0 : Int32), fL_round_441 N σ η y0 = some (rf, σf) → bW p l e rmL_round s m args below meth c 1 20 (MQ below (Qw D (wX ad ca) σf (some (.int rf)) A) args s 1 20 A) 16 (wl D A s (wX ad ca) σ (wNx nx cn η)) 441 [(0, .ref (ad 0)), (3, .int y0)] [] := by
  intro σ265 η266 x264 h267
  refine b_aload_n C 0 dL_round_441 rfl rfl ?_
  refine b_iconst (v := (0 : Int32)) C dL_round_442 (by decide) ?_
  refine b_iconst (v := (1 : Int32)) C dL_round_443 (by decide) ?_
  obtain ⟨r270, σ269, ec268, h268⟩ := bd2_inv h267; clear h267
  refine b_callLl (rest := []) C (sameX ad ca) X (fun i j p q hi hj => XN.dj i j p q hi hj) dL_round_444 (ctX2_rate ec268) mf_X2_rate mi_X2_rate kl_L_98 0 rfl rfl rfl rfl ⟨rfl, rfl⟩ ⟨Nat.le_of_ble_eq_true rfl, Nat.le_of_ble_eq_true rfl⟩ ⟨Nat.le_of_ble_eq_true rfl, Nat.le_of_ble_eq_true rfl⟩ rfl (Nat.le_of_ble_eq_true rfl) ?_
  obtain ⟨r272, ec271, h271⟩ := bd0_inv h268; clear h268
  refine b_callSl (rest := [.long r270]) C dL_round_447 (ctL_none ec271) mf_L_none ms_L_none kl_L_11 rfl ⟨rfl, rfl⟩ ⟨Nat.le_of_ble_eq_true rfl, Nat.le_of_ble_eq_true rfl⟩ ⟨Nat.le_of_ble_eq_true rfl, Nat.le_of_ble_eq_true rfl⟩ rfl (Nat.le_of_ble_eq_true rfl) ?_
  refine b_lc_ge (tgt := 473) C dL_round_450 dL_round_451 (by decide) (fun c273 => ?_) (fun c273 => ?_)
  · have h274 := ipos h271 c273; clear h271
    refine b_iconst (v := (0 : Int32)) C dL_round_473 (by decide) ?_
    obtain ⟨rfl, rfl⟩ := so2 h274
    exact b_lw (n_zret C 1 20 (by decide) (by decide) dL_round_474 hr rfl)
  have h275 := ineg h271 c273; clear h271
  refine b_aload_n C 0 dL_round_454 rfl rfl ?_
  refine b_iload_n C 1 dL_round_455 rfl rfl ?_
  refine b_iconst (v := (2 : Int32)) C dL_round_456 (by decide) ?_
  refine b_iadd C dL_round_457 ?_
  refine b_iconst (v := (1 : Int32)) C dL_round_458 (by decide) ?_
  obtain ⟨r278, σ277, ec276, h276⟩ := bd2_inv h275; clear h275
  refine b_callLl (rest := []) C (sameX ad ca) X (fun i j p q hi hj => XN.dj i j p q hi hj) dL_round_459 (ctX2_width ec276) mf_X2_width mi_X2_width kl_L_95 0 rfl rfl rfl rfl ⟨rfl, rfl⟩ ⟨Nat.le_of_ble_eq_true rfl, Nat.le_of_ble_eq_true rfl⟩ ⟨Nat.le_of_ble_eq_true rfl, Nat.le_of_ble_eq_true rfl⟩ rfl (Nat.le_of_ble_eq_true rfl) ?_
  obtain ⟨r280, ec279, h279⟩ := bd0_inv h276; clear h276
  refine b_callSl (rest := [.long r278]) C dL_round_462 (ctL_none ec279) mf_L_none ms_L_none kl_L_11 rfl ⟨rfl, rfl⟩ ⟨Nat.le_of_ble_eq_true rfl, Nat.le_of_ble_eq_true rfl⟩ ⟨Nat.le_of_ble_eq_true rfl, Nat.le_of_ble_eq_true rfl⟩ rfl (Nat.le_of_ble_eq_true rfl) ?_
  refine b_lc_ge (tgt := 473) C dL_round_465 dL_round_466 (by decide) (fun c281 => ?_) (fun c281 => ?_)
  · have h282 := ipos h279 c281; clear h279
    refine b_iconst (v := (0 : Int32)) C dL_round_473 (by decide) ?_
    obtain ⟨rfl, rfl⟩ := so2 h282
    exact b_lw (n_zret C 1 20 (by decide) (by decide) dL_round_474 hr rfl)
  have h283 := ineg h279 c281; clear h279
  refine b_iconst (v := (1 : Int32)) C dL_round_469 (by decide) ?_
  refine b_goto (tgt := 474) C dL_round_470 (by decide) ?_
  obtain ⟨rfl, rfl⟩ := so2 h283
  exact b_lw (n_zret C 1 20 (by decide) (by decide) dL_round_474 hr rfl)
theorem wL_round_418 {l : Launch} {p : Program} {e : Env} {s : State} {m : MethodId} {args : Array Value} {below : List Frame} {meth : Method} {c : Code} {nx : Nat} {cn : ClassId} {D : va_G} {A : Nat → Prop} {ad : Nat → Nat} {ca : Nat → ClassId} {rf : Int32} {σf : St} (C : Cb p s m args meth c RL cL_round 16) (X : Cx s D A (wX ad ca) (tyX ca)) (hr : meth.sig.returnType = (some .boolean)) (XN : Nxt s D A ad ca nx cn) {N : Nat} : ∀ (σ : St) (η : Nat → Int64) (y0 : Int32) (y1 : Int32) (y2 : Int32), fL_round_418 N σ η y0 y1 y2 = some (rf, σf) → bW p l e rmL_round s m args below meth c 1 20 (MQ below (Qw D (wX ad ca) σf (some (.int rf)) A) args s 1 20 A) 16 (wl D A s (wX ad ca) σ (wNx nx cn η)) 418 [(0, .ref (ad 0)), (2, .int y0), (3, .int y1)] [.int y2] := by
  intro σ252 η253 x249 x250 x251 h254
  refine b_istore (lv' := [(14, .int x251), (0, .ref (ad 0)), (2, .int x249), (3, .int x250)]) C dL_round_418 (by decide) rfl ?_
  refine b_iload C 0 dL_round_420 rfl ?_
  refine b_if_eq (tgt := 473) C dL_round_422 (by decide) (fun c255 => ?_) (fun c255 => ?_)
  · have h256 := ipos h254 c255; clear h254
    refine b_iconst (v := (0 : Int32)) C dL_round_473 (by decide) ?_
    obtain ⟨rfl, rfl⟩ := so2 h256
    exact b_lw (n_zret C 1 20 (by decide) (by decide) dL_round_474 hr rfl)
  have h257 := ineg h254 c255; clear h254
  refine b_aload_n C 1 dL_round_425 rfl rfl ?_
  refine b_iconst (v := (4 : Int32)) C dL_round_426 (by decide) ?_
  obtain ⟨r260, σ259, ec258, h258⟩ := bd2_inv h257; clear h257
  refine b_callLi (rest := []) C (sameX ad ca) X (fun i j p q hi hj => XN.dj i j p q hi hj) dL_round_427 (ctX2_count ec258) mf_X2_count mi_X2_count kl_L_40 0 rfl rfl rfl rfl ⟨rfl, rfl⟩ ⟨Nat.le_of_ble_eq_true rfl, Nat.le_of_ble_eq_true rfl⟩ ⟨Nat.le_of_ble_eq_true rfl, Nat.le_of_ble_eq_true rfl⟩ rfl (Nat.le_of_ble_eq_true rfl) ?_
  refine b_iload_n C 2 dL_round_430 rfl rfl ?_
  refine b_icmp_gt (tgt := 441) C dL_round_431 (by decide) (fun c261 => ?_) (fun c261 => ?_)
  · have h262 := ipos h258 c261; clear h258
    exact b_sub [1, 3] rfl (wL_round_441 C X hr XN _ _ _ h262)
  have h263 := ineg h258 c261; clear h258
  refine b_aload_n C 1 dL_round_434 rfl rfl ?_
  obtain ⟨r286, σ285, ec284, h284⟩ := bd2_inv h263; clear h263
  refine b_callLi (rest := []) C (sameX ad ca) X (fun i j p q hi hj => XN.dj i j p q hi hj) dL_round_435 (ctX2_outside ec284) mf_X2_outside mi_X2_outside kl_L_101 0 rfl rfl rfl rfl ⟨rfl, rfl⟩ ⟨Nat.le_of_ble_eq_true rfl, Nat.le_of_ble_eq_true rfl⟩ ⟨Nat.le_of_ble_eq_true rfl, Nat.le_of_ble_eq_true rfl⟩ rfl (Nat.le_of_ble_eq_true rfl) ?_
  refine b_if_ne (tgt := 473) C dL_round_438 (by decide) (fun c287 => ?_) (fun c287 => ?_)
  · have h288 := ineg h284 c287; clear h284
    refine b_iconst (v := (0 : Int32)) C dL_round_473 (by decide) ?_
    obtain ⟨rfl, rfl⟩ := so2 h288
    exact b_lw (n_zret C 1 20 (by decide) (by decide) dL_round_474 hr rfl)
  have h289 := ipos h284 c287; clear h284
  exact b_sub [1, 3] rfl (wL_round_441 C X hr XN _ _ _ h289)
theorem wL_round_357 {l : Launch} {p : Program} {e : Env} {s : State} {m : MethodId} {args : Array Value} {below : List Frame} {meth : Method} {c : Code} {nx : Nat} {cn : ClassId} {D : va_G} {A : Nat → Prop} {ad : Nat → Nat} {ca : Nat → ClassId} {rf : Int32} {σf : St} (C : Cb p s m args meth c RL cL_round 16) (X : Cx s D A (wX ad ca) (tyX ca)) (hr : meth.sig.returnType = (some .boolean)) (XN : Nxt s D A ad ca nx cn) {N : Nat} : ∀ (σ : St) (η : Nat → Int64) (y0 : Int32) (y1 : Int32) (y2 : Int64) (y3 : Int64), fL_round_357 N σ η y0 y1 y2 y3 = some (rf, σf) → bW p l e rmL_round s m args below meth c 1 20 (MQ below (Qw D (wX ad ca) σf (some (.int rf)) A) args s 1 20 A) 16 (wl D A s (wX ad ca) σ (wNx nx cn η)) 357 [(0, .ref (ad 0)), (2, .int y0), (3, .int y1), (10, .long y2), (12, .long y3)] [] := by
  intro σ234 η235 x230 x231 x232 x233 h236
  refine b_lload C 3 dL_round_357 rfl ?_
  refine b_lconst (v := (0 : Int64)) C dL_round_359 (by decide) ?_
  refine b_lc_ne (tgt := 387) C dL_round_360 dL_round_361 (by decide) (fun c237 => ?_) (fun c237 => ?_)
  · have h238 := ineg h236 c237; clear h236
    refine b_aload_n C 0 dL_round_387 rfl rfl ?_
    refine b_iload_n C 2 dL_round_388 rfl rfl ?_
    refine b_iconst (v := (1 : Int32)) C dL_round_389 (by decide) ?_
    refine b_iadd C dL_round_390 ?_
    refine b_iconst (v := (0 : Int32)) C dL_round_391 (by decide) ?_
    obtain ⟨r242, σ241, ec240, h240⟩ := bd2_inv h238; clear h238
    refine b_callLl (rest := []) C (sameX ad ca) X (fun i j p q hi hj => XN.dj i j p q hi hj) dL_round_392 (ctX2_rate ec240) mf_X2_rate mi_X2_rate kl_L_98 0 rfl rfl rfl rfl ⟨rfl, rfl⟩ ⟨Nat.le_of_ble_eq_true rfl, Nat.le_of_ble_eq_true rfl⟩ ⟨Nat.le_of_ble_eq_true rfl, Nat.le_of_ble_eq_true rfl⟩ rfl (Nat.le_of_ble_eq_true rfl) ?_
    refine b_lload C 3 dL_round_395 rfl ?_
    refine b_lmul C dL_round_397 ?_
    refine b_lload C 4 dL_round_398 rfl ?_
    refine b_aload_n C 0 dL_round_400 rfl rfl ?_
    refine b_iload_n C 2 dL_round_401 rfl rfl ?_
    refine b_iconst (v := (1 : Int32)) C dL_round_402 (by decide) ?_
    refine b_iadd C dL_round_403 ?_
    refine b_iconst (v := (1 : Int32)) C dL_round_404 (by decide) ?_
    obtain ⟨r245, σ244, ec243, h243⟩ := bd2_inv h240; clear h240
    refine b_callLl (rest := [.long x233, .long (r242 * x232)]) C (sameX ad ca) X (fun i j p q hi hj => XN.dj i j p q hi hj) dL_round_405 (ctX2_rate ec243) mf_X2_rate mi_X2_rate kl_L_98 0 rfl rfl rfl rfl ⟨rfl, rfl⟩ ⟨Nat.le_of_ble_eq_true rfl, Nat.le_of_ble_eq_true rfl⟩ ⟨Nat.le_of_ble_eq_true rfl, Nat.le_of_ble_eq_true rfl⟩ rfl (Nat.le_of_ble_eq_true rfl) ?_
    refine b_lmul C dL_round_408 ?_
    refine b_lc_ne (tgt := 417) C dL_round_409 dL_round_410 (by decide) (fun c246 => ?_) (fun c246 => ?_)
    · have h247 := ineg h243 c246; clear h243
      refine b_iconst (v := (0 : Int32)) C dL_round_417 (by decide) ?_
      exact b_sub [0, 1, 2] rfl (wL_round_418 C X hr XN _ _ _ _ _ h247)
    have h248 := ipos h243 c246; clear h243
    refine b_iconst (v := (1 : Int32)) C dL_round_413 (by decide) ?_
    refine b_goto (tgt := 418) C dL_round_414 (by decide) ?_
    exact b_sub [0, 1, 2] rfl (wL_round_418 C X hr XN _ _ _ _ _ h248)
  have h239 := ipos h236 c237; clear h236
  refine b_aload_n C 0 dL_round_364 rfl rfl ?_
  refine b_iload_n C 2 dL_round_365 rfl rfl ?_
  refine b_iconst (v := (1 : Int32)) C dL_round_366 (by decide) ?_
  refine b_iadd C dL_round_367 ?_
  refine b_iconst (v := (1 : Int32)) C dL_round_368 (by decide) ?_
  obtain ⟨r292, σ291, ec290, h290⟩ := bd2_inv h239; clear h239
  refine b_callLl (rest := []) C (sameX ad ca) X (fun i j p q hi hj => XN.dj i j p q hi hj) dL_round_369 (ctX2_rate ec290) mf_X2_rate mi_X2_rate kl_L_98 0 rfl rfl rfl rfl ⟨rfl, rfl⟩ ⟨Nat.le_of_ble_eq_true rfl, Nat.le_of_ble_eq_true rfl⟩ ⟨Nat.le_of_ble_eq_true rfl, Nat.le_of_ble_eq_true rfl⟩ rfl (Nat.le_of_ble_eq_true rfl) ?_
  obtain ⟨r294, ec293, h293⟩ := bd0_inv h290; clear h290
  refine b_callSl (rest := [.long r292]) C dL_round_372 (ctL_none ec293) mf_L_none ms_L_none kl_L_11 rfl ⟨rfl, rfl⟩ ⟨Nat.le_of_ble_eq_true rfl, Nat.le_of_ble_eq_true rfl⟩ ⟨Nat.le_of_ble_eq_true rfl, Nat.le_of_ble_eq_true rfl⟩ rfl (Nat.le_of_ble_eq_true rfl) ?_
  refine b_lc_ge (tgt := 383) C dL_round_375 dL_round_376 (by decide) (fun c295 => ?_) (fun c295 => ?_)
  · have h296 := ipos h293 c295; clear h293
    refine b_iconst (v := (0 : Int32)) C dL_round_383 (by decide) ?_
    refine b_goto (tgt := 418) C dL_round_384 (by decide) ?_
    exact b_sub [0, 1, 2] rfl (wL_round_418 C X hr XN _ _ _ _ _ h296)
  have h297 := ineg h293 c295; clear h293
  refine b_iconst (v := (1 : Int32)) C dL_round_379 (by decide) ?_
  refine b_goto (tgt := 418) C dL_round_380 (by decide) ?_
  exact b_sub [0, 1, 2] rfl (wL_round_418 C X hr XN _ _ _ _ _ h297)
theorem ctL_round {l : Launch} {ad : Nat → Nat} {ca : Nat → ClassId} {N : Nat} {σ : St} {a1 : Int32} {a2 : Int32} {rf : Int32} {σf : St} (h : fL_round N σ a1 a2 = some (rf, σf)) : Cwn l yL_round cL_round 16 (some .boolean) rmL_round [.ref (ad 0), .int a1, .int a2] (wX ad ca) (tyX ca) σ (some (.int rf)) σf 1 20 := by
  refine Cwn_of 1 20 (by decide) (sameX ad ca) (Nat.le_of_ble_eq_true rfl) ?_
  intro p e s m args below meth c D A C X hr
  replace C : Cb p s m args meth c RL cL_round 16 := C
  have h3 := h; clear h
  refine b_sub (lv' := [(0, .ref (ad 0)), (1, .int a1), (2, .int a2)]) [0, 1, 2] rfl ?_
  refine b_aload_n C 0 dL_round_0 rfl rfl ?_
  refine b_iconst (v := (3 : Int32)) C dL_round_1 (by decide) ?_
  obtain ⟨r6, σ5, ec4, h4⟩ := bd2_inv h3; clear h3
  refine b_callWi (rest := []) C (sameX ad ca) X dL_round_2 (ctX2_count ec4) mf_X2_count mi_X2_count kl_L_40 0 rfl rfl rfl rfl ⟨rfl, rfl⟩ ⟨Nat.le_of_ble_eq_true rfl, Nat.le_of_ble_eq_true rfl⟩ ⟨Nat.le_of_ble_eq_true rfl, Nat.le_of_ble_eq_true rfl⟩ rfl (Nat.le_of_ble_eq_true rfl) ?_
  refine b_istore_n (lv' := [(3, .int r6), (0, .ref (ad 0)), (1, .int a1), (2, .int a2)]) C dL_round_5 rfl (by decide) rfl ?_
  refine b_aload_n C 1 dL_round_6 rfl rfl ?_
  refine b_iconst (v := (2 : Int32)) C dL_round_7 (by decide) ?_
  obtain ⟨r9, σ8, ec7, h7⟩ := bd2_inv h4; clear h4
  refine b_callWi (rest := []) C (sameX ad ca) X dL_round_8 (ctX2_count ec7) mf_X2_count mi_X2_count kl_L_40 0 rfl rfl rfl rfl ⟨rfl, rfl⟩ ⟨Nat.le_of_ble_eq_true rfl, Nat.le_of_ble_eq_true rfl⟩ ⟨Nat.le_of_ble_eq_true rfl, Nat.le_of_ble_eq_true rfl⟩ rfl (Nat.le_of_ble_eq_true rfl) ?_
  refine b_istore (lv' := [(4, .int r9), (3, .int r6), (0, .ref (ad 0)), (1, .int a1), (2, .int a2)]) C dL_round_11 (by decide) rfl ?_
  refine b_iload_n C 1 dL_round_13 rfl rfl ?_
  refine b_bipush (v := (60 : Int32)) C dL_round_14 (by decide) ?_
  refine b_icmp_ne (tgt := 48) C dL_round_16 (by decide) (fun c10 => ?_) (fun c10 => ?_)
  · have h11 := ineg h7 c10; clear h7
    refine b_bipush (v := (20 : Int32)) C dL_round_48 (by decide) ?_
    refine b_newN C X (Nat.le_of_ble_eq_true rfl) (Nat.le_of_ble_eq_true rfl) dL_round_50 (fun nx cn XN => ?_)
    refine b_astore (lv' := [(5, .ref nx), (4, .int r9), (3, .int r6), (0, .ref (ad 0)), (1, .int a1), (2, .int a2)]) C dL_round_52 (by decide) rfl ?_
    refine b_iconst (v := (0 : Int32)) C dL_round_54 (by decide) ?_
    refine b_istore (lv' := [(6, .int (0 : Int32)), (5, .ref nx), (4, .int r9), (3, .int r6), (0, .ref (ad 0)), (1, .int a1), (2, .int a2)]) C dL_round_55 (by decide) rfl ?_
    refine b_sub [4, 5, 6, 3, 2, 1, 0] rfl (wL_round_57 C X hr XN (fun σ65 η66 x61 x62 x63 x64 h67 => ?_) _ _ _ _ _ _ _ _ h11)
    refine b_aload_n C 0 dL_round_113 rfl rfl ?_
    refine b_iconst (v := (0 : Int32)) C dL_round_114 (by decide) ?_
    obtain ⟨r70, σ69, ec68, h68⟩ := bd2_inv h67; clear h67
    refine b_callLl (rest := []) C (sameX ad ca) X (fun i j p q hi hj => XN.dj i j p q hi hj) dL_round_115 (ctX2_guarantee ec68) mf_X2_guarantee mi_X2_guarantee kl_L_87 0 rfl rfl rfl rfl ⟨rfl, rfl⟩ ⟨Nat.le_of_ble_eq_true rfl, Nat.le_of_ble_eq_true rfl⟩ ⟨Nat.le_of_ble_eq_true rfl, Nat.le_of_ble_eq_true rfl⟩ rfl (Nat.le_of_ble_eq_true rfl) ?_
    refine b_lstore (lv' := [(6, .long r70), (0, .ref (ad 0)), (1, .int x61), (2, .int x62), (3, .int x63), (4, .int x64), (5, .ref nx)]) C dL_round_118 (by decide) rfl ?_
    refine b_aload_n C 1 dL_round_120 rfl rfl ?_
    refine b_iconst (v := (1 : Int32)) C dL_round_121 (by decide) ?_
    obtain ⟨r73, σ72, ec71, h71⟩ := bd2_inv h68; clear h68
    refine b_callLl (rest := []) C (sameX ad ca) X (fun i j p q hi hj => XN.dj i j p q hi hj) dL_round_122 (ctX2_guarantee ec71) mf_X2_guarantee mi_X2_guarantee kl_L_87 0 rfl rfl rfl rfl ⟨rfl, rfl⟩ ⟨Nat.le_of_ble_eq_true rfl, Nat.le_of_ble_eq_true rfl⟩ ⟨Nat.le_of_ble_eq_true rfl, Nat.le_of_ble_eq_true rfl⟩ rfl (Nat.le_of_ble_eq_true rfl) ?_
    refine b_lstore (lv' := [(8, .long r73), (6, .long r70), (0, .ref (ad 0)), (1, .int x61), (2, .int x62), (3, .int x63), (4, .int x64), (5, .ref nx)]) C dL_round_125 (by decide) rfl ?_
    refine b_aload_n C 2 dL_round_127 rfl rfl ?_
    refine b_iload_n C 3 dL_round_128 rfl rfl ?_
    refine b_iload_n C 5 dL_round_129 rfl rfl ?_
    obtain ⟨r76, σ75, ec74, h74⟩ := bd2_inv h71; clear h71
    refine b_callSLl (rest := []) C (sameX ad ca) X (fun i j p q hi hj => XN.dj i j p q hi hj) dL_round_130 (ctL_width ec74) mf_L_width ms_L_width kl_L_91 rfl ⟨rfl, rfl⟩ ⟨Nat.le_of_ble_eq_true rfl, Nat.le_of_ble_eq_true rfl⟩ ⟨Nat.le_of_ble_eq_true rfl, Nat.le_of_ble_eq_true rfl⟩ rfl (Nat.le_of_ble_eq_true rfl) ?_
    refine b_lstore (lv' := [(10, .long r76), (8, .long r73), (6, .long r70), (0, .ref (ad 0)), (1, .int x61), (2, .int x62), (3, .int x63), (4, .int x64), (5, .ref nx)]) C dL_round_133 (by decide) rfl ?_
    refine b_aload_n C 3 dL_round_135 rfl rfl ?_
    refine b_iconst (v := (1 : Int32)) C dL_round_136 (by decide) ?_
    obtain ⟨r79, σ78, ec77, h77⟩ := bd2_inv h74; clear h74
    refine b_callLi (rest := []) C (sameX ad ca) X (fun i j p q hi hj => XN.dj i j p q hi hj) dL_round_137 (ctX2_run ec77) mf_X2_run mi_X2_run kl_L_77 0 rfl rfl rfl rfl ⟨rfl, rfl⟩ ⟨Nat.le_of_ble_eq_true rfl, Nat.le_of_ble_eq_true rfl⟩ ⟨Nat.le_of_ble_eq_true rfl, Nat.le_of_ble_eq_true rfl⟩ rfl (Nat.le_of_ble_eq_true rfl) ?_
    refine b_iload_n C 6 dL_round_140 rfl rfl ?_
    refine b_iconst (v := (1 : Int32)) C dL_round_141 (by decide) ?_
    refine b_iadd C dL_round_142 ?_
    refine b_icmp_ne (tgt := 170) C dL_round_143 (by decide) (fun c80 => ?_) (fun c80 => ?_)
    · have h81 := ineg h77 c80; clear h77
      refine b_iconst (v := (0 : Int32)) C dL_round_170 (by decide) ?_
      obtain ⟨rfl, rfl⟩ := so2 h81
      exact b_lw (n_zret C 1 20 (by decide) (by decide) dL_round_171 hr rfl)
    have h82 := ipos h77 c80; clear h77
    refine b_aload_n C 3 dL_round_146 rfl rfl ?_
    refine b_iload_n C 6 dL_round_147 rfl rfl ?_
    refine b_iconst (v := (0 : Int32)) C dL_round_148 (by decide) ?_
    obtain ⟨r85, σ84, ec83, h83⟩ := bd2_inv h82; clear h82
    refine b_callLl (rest := []) C (sameX ad ca) X (fun i j p q hi hj => XN.dj i j p q hi hj) dL_round_149 (ctX2_width ec83) mf_X2_width mi_X2_width kl_L_95 0 rfl rfl rfl rfl ⟨rfl, rfl⟩ ⟨Nat.le_of_ble_eq_true rfl, Nat.le_of_ble_eq_true rfl⟩ ⟨Nat.le_of_ble_eq_true rfl, Nat.le_of_ble_eq_true rfl⟩ rfl (Nat.le_of_ble_eq_true rfl) ?_
    refine b_aload_n C 3 dL_round_152 rfl rfl ?_
    refine b_iload_n C 6 dL_round_153 rfl rfl ?_
    refine b_iconst (v := (1 : Int32)) C dL_round_154 (by decide) ?_
    obtain ⟨r88, σ87, ec86, h86⟩ := bd2_inv h83; clear h83
    refine b_callLl (rest := [.long r85]) C (sameX ad ca) X (fun i j p q hi hj => XN.dj i j p q hi hj) dL_round_155 (ctX2_width ec86) mf_X2_width mi_X2_width kl_L_95 0 rfl rfl rfl rfl ⟨rfl, rfl⟩ ⟨Nat.le_of_ble_eq_true rfl, Nat.le_of_ble_eq_true rfl⟩ ⟨Nat.le_of_ble_eq_true rfl, Nat.le_of_ble_eq_true rfl⟩ rfl (Nat.le_of_ble_eq_true rfl) ?_
    refine b_iload C 7 dL_round_158 rfl ?_
    refine b_i2l C dL_round_160 ?_
    obtain ⟨r90, ec89, h89⟩ := bd0_inv h86; clear h86
    refine b_callSl (rest := []) C dL_round_161 (ctL_units ec89) mf_L_units ms_L_units kl_L_54 rfl ⟨rfl, rfl⟩ ⟨Nat.le_of_ble_eq_true rfl, Nat.le_of_ble_eq_true rfl⟩ ⟨Nat.le_of_ble_eq_true rfl, Nat.le_of_ble_eq_true rfl⟩ rfl (Nat.le_of_ble_eq_true rfl) ?_
    refine b_lload C 0 dL_round_164 rfl ?_
    refine b_lc_eq (tgt := 172) C dL_round_166 dL_round_167 (by decide) (fun c91 => ?_) (fun c91 => ?_)
    · have h92 := ipos h89 c91; clear h89
      refine b_iconst (v := (0 : Int32)) C dL_round_172 (by decide) ?_
      refine b_istore (lv' := [(12, .int (0 : Int32)), (10, .long r76), (8, .long r73), (6, .long r70), (0, .ref (ad 0)), (1, .int x61), (2, .int x62), (3, .int x63), (4, .int x64), (5, .ref nx)]) C dL_round_173 (by decide) rfl ?_
      refine b_sub [4, 5, 6, 7, 8, 9, 3, 2, 1, 0] rfl (wL_round_175 C X hr XN (fun σ208 η209 x201 x202 x203 x204 x205 x206 x207 h210 => ?_) _ _ _ _ _ _ _ _ _ _ _ h92)
      refine b_aload_n C 0 dL_round_291 rfl rfl ?_
      refine b_iload_n C 1 dL_round_292 rfl rfl ?_
      refine b_iload_n C 3 dL_round_293 rfl rfl ?_
      refine b_iconst (v := (1 : Int32)) C dL_round_294 (by decide) ?_
      refine b_iadd C dL_round_295 ?_
      obtain ⟨r213, σ212, ec211, h211⟩ := bd2_inv h210; clear h210
      refine b_callSLl (rest := []) C (sameX ad ca) X (fun i j p q hi hj => XN.dj i j p q hi hj) dL_round_296 (ctL_width ec211) mf_L_width ms_L_width kl_L_91 rfl ⟨rfl, rfl⟩ ⟨Nat.le_of_ble_eq_true rfl, Nat.le_of_ble_eq_true rfl⟩ ⟨Nat.le_of_ble_eq_true rfl, Nat.le_of_ble_eq_true rfl⟩ rfl (Nat.le_of_ble_eq_true rfl) ?_
      refine b_lstore (lv' := [(12, .long r213), (0, .ref (ad 0)), (1, .int x201), (2, .int x202), (3, .int x203), (4, .int x204), (6, .long x205), (8, .long x206), (10, .long x207)]) C dL_round_299 (by decide) rfl ?_
      refine b_aload_n C 1 dL_round_301 rfl rfl ?_
      refine b_iload_n C 4 dL_round_302 rfl rfl ?_
      refine b_iconst (v := (1 : Int32)) C dL_round_303 (by decide) ?_
      refine b_iadd C dL_round_304 ?_
      refine b_iconst (v := (0 : Int32)) C dL_round_305 (by decide) ?_
      obtain ⟨r216, σ215, ec214, h214⟩ := bd2_inv h211; clear h211
      refine b_callLl (rest := []) C (sameX ad ca) X (fun i j p q hi hj => XN.dj i j p q hi hj) dL_round_306 (ctX2_width ec214) mf_X2_width mi_X2_width kl_L_95 0 rfl rfl rfl rfl ⟨rfl, rfl⟩ ⟨Nat.le_of_ble_eq_true rfl, Nat.le_of_ble_eq_true rfl⟩ ⟨Nat.le_of_ble_eq_true rfl, Nat.le_of_ble_eq_true rfl⟩ rfl (Nat.le_of_ble_eq_true rfl) ?_
      refine b_aload_n C 1 dL_round_309 rfl rfl ?_
      refine b_iload_n C 4 dL_round_310 rfl rfl ?_
      refine b_iconst (v := (1 : Int32)) C dL_round_311 (by decide) ?_
      refine b_iadd C dL_round_312 ?_
      refine b_iconst (v := (1 : Int32)) C dL_round_313 (by decide) ?_
      obtain ⟨r219, σ218, ec217, h217⟩ := bd2_inv h214; clear h214
      refine b_callLl (rest := [.long r216]) C (sameX ad ca) X (fun i j p q hi hj => XN.dj i j p q hi hj) dL_round_314 (ctX2_width ec217) mf_X2_width mi_X2_width kl_L_95 0 rfl rfl rfl rfl ⟨rfl, rfl⟩ ⟨Nat.le_of_ble_eq_true rfl, Nat.le_of_ble_eq_true rfl⟩ ⟨Nat.le_of_ble_eq_true rfl, Nat.le_of_ble_eq_true rfl⟩ rfl (Nat.le_of_ble_eq_true rfl) ?_
      refine b_iload C 5 dL_round_317 rfl ?_
      refine b_i2l C dL_round_319 ?_
      obtain ⟨r221, ec220, h220⟩ := bd0_inv h217; clear h217
      refine b_callSl (rest := []) C dL_round_320 (ctL_units ec220) mf_L_units ms_L_units kl_L_54 rfl ⟨rfl, rfl⟩ ⟨Nat.le_of_ble_eq_true rfl, Nat.le_of_ble_eq_true rfl⟩ ⟨Nat.le_of_ble_eq_true rfl, Nat.le_of_ble_eq_true rfl⟩ rfl (Nat.le_of_ble_eq_true rfl) ?_
      refine b_lload C 0 dL_round_323 rfl ?_
      refine b_lc_ne (tgt := 355) C dL_round_325 dL_round_326 (by decide) (fun c222 => ?_) (fun c222 => ?_)
      · have h223 := ineg h220 c222; clear h220
        refine b_iconst (v := (0 : Int32)) C dL_round_355 (by decide) ?_
        obtain ⟨rfl, rfl⟩ := so2 h223
        exact b_lw (n_zret C 1 20 (by decide) (by decide) dL_round_356 hr rfl)
      have h224 := ipos h220 c222; clear h220
      refine b_lload C 6 dL_round_329 rfl ?_
      obtain ⟨r226, ec225, h225⟩ := bd0_inv h224; clear h224
      refine b_callSl (rest := [.long x205]) C dL_round_331 (ctL_none ec225) mf_L_none ms_L_none kl_L_11 rfl ⟨rfl, rfl⟩ ⟨Nat.le_of_ble_eq_true rfl, Nat.le_of_ble_eq_true rfl⟩ ⟨Nat.le_of_ble_eq_true rfl, Nat.le_of_ble_eq_true rfl⟩ rfl (Nat.le_of_ble_eq_true rfl) ?_
      refine b_lc_le (tgt := 357) C dL_round_334 dL_round_335 (by decide) (fun c227 => ?_) (fun c227 => ?_)
      · have h228 := ipos h225 c227; clear h225
        exact b_sub [1, 3, 4, 8, 0] rfl (wL_round_357 C X hr XN _ _ _ _ _ _ h228)
      have h229 := ineg h225 c227; clear h225
      refine b_lload C 0 dL_round_338 rfl ?_
      refine b_lload C 7 dL_round_340 rfl ?_
      refine b_lmul C dL_round_342 ?_
      refine b_lload C 6 dL_round_343 rfl ?_
      refine b_lload C 8 dL_round_345 rfl ?_
      refine b_lmul C dL_round_347 ?_
      refine b_lload C 7 dL_round_348 rfl ?_
      refine b_ladd C dL_round_350 ?_
      refine b_lc_le (tgt := 357) C dL_round_351 dL_round_352 (by decide) (fun c298 => ?_) (fun c298 => ?_)
      · have h299 := ipos h229 c298; clear h229
        exact b_sub [1, 3, 4, 8, 0] rfl (wL_round_357 C X hr XN _ _ _ _ _ _ h299)
      have h300 := ineg h229 c298; clear h229
      refine b_iconst (v := (0 : Int32)) C dL_round_355 (by decide) ?_
      obtain ⟨rfl, rfl⟩ := so2 h300
      exact b_lw (n_zret C 1 20 (by decide) (by decide) dL_round_356 hr rfl)
    have h93 := ineg h89 c91; clear h89
    refine b_iconst (v := (0 : Int32)) C dL_round_170 (by decide) ?_
    obtain ⟨rfl, rfl⟩ := so2 h93
    exact b_lw (n_zret C 1 20 (by decide) (by decide) dL_round_171 hr rfl)
  have h12 := ipos h7 c10; clear h7
  refine b_aload_n C 2 dL_round_19 rfl rfl ?_
  refine b_iconst (v := (1 : Int32)) C dL_round_20 (by decide) ?_
  obtain ⟨r303, σ302, ec301, h301⟩ := bd2_inv h12; clear h12
  refine b_callWi (rest := []) C (sameX ad ca) X dL_round_21 (ctX2_run ec301) mf_X2_run mi_X2_run kl_L_77 0 rfl rfl rfl rfl ⟨rfl, rfl⟩ ⟨Nat.le_of_ble_eq_true rfl, Nat.le_of_ble_eq_true rfl⟩ ⟨Nat.le_of_ble_eq_true rfl, Nat.le_of_ble_eq_true rfl⟩ rfl (Nat.le_of_ble_eq_true rfl) ?_
  refine b_sipush (v := (-1004 : Int32)) C dL_round_24 (by decide) ?_
  refine b_icmp_ne (tgt := 46) C dL_round_27 (by decide) (fun c304 => ?_) (fun c304 => ?_)
  · have h305 := ineg h301 c304; clear h301
    refine b_iconst (v := (0 : Int32)) C dL_round_46 (by decide) ?_
    obtain ⟨rfl, rfl⟩ := so2 h305
    exact n_zret C 1 20 (by decide) (by decide) dL_round_47 hr rfl
  have h306 := ipos h301 c304; clear h301
  refine b_aload_n C 2 dL_round_30 rfl rfl ?_
  refine b_bipush (v := (61 : Int32)) C dL_round_31 (by decide) ?_
  obtain ⟨r309, σ308, ec307, h307⟩ := bd2_inv h306; clear h306
  refine b_callWi (rest := []) C (sameX ad ca) X dL_round_33 (ctX2_back ec307) mf_X2_back mi_X2_back kl_L_80 0 rfl rfl rfl rfl ⟨rfl, rfl⟩ ⟨Nat.le_of_ble_eq_true rfl, Nat.le_of_ble_eq_true rfl⟩ ⟨Nat.le_of_ble_eq_true rfl, Nat.le_of_ble_eq_true rfl⟩ rfl (Nat.le_of_ble_eq_true rfl) ?_
  refine b_sipush (v := (-1002 : Int32)) C dL_round_36 (by decide) ?_
  refine b_icmp_ne (tgt := 46) C dL_round_39 (by decide) (fun c310 => ?_) (fun c310 => ?_)
  · have h311 := ineg h307 c310; clear h307
    refine b_iconst (v := (0 : Int32)) C dL_round_46 (by decide) ?_
    obtain ⟨rfl, rfl⟩ := so2 h311
    exact n_zret C 1 20 (by decide) (by decide) dL_round_47 hr rfl
  have h312 := ipos h307 c310; clear h307
  refine b_iconst (v := (1 : Int32)) C dL_round_42 (by decide) ?_
  refine b_goto (tgt := 47) C dL_round_43 (by decide) ?_
  obtain ⟨rfl, rfl⟩ := so2 h312
  exact n_zret C 1 20 (by decide) (by decide) dL_round_47 hr rfl
