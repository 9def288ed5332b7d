def rmL_foretells : Room := { frames := 7, cells := 0, slots := 0, locals := 182 }
def fL_foretells_351 (N : Nat) (q297 : St → Int32 → Int32 → Int32 → Int32 → Int32 → Int32 → Int32 → Int64 → Int32 → Option (Int32 × St)) (σ132 : St) (x123 : Int32) (x124 : Int32) (x125 : Int32) (x126 : Int32) (x127 : Int32) (x128 : Int32) (x129 : Int64) (x130 : Int32) (x131 : Int64) : Option (Int32 × St) :=
  if x130 = x130 then (
  bd2 (fX2_back σ132 x126) fun r144 σ143 =>
  lt1 (x130 + (1 : Int32)) fun x145 =>
  q297 σ143 x123 x124 x125 x126 x127 x128 x130 x131 x145)
  else (
  bd2 (fX2_back σ132 x126) fun r139 σ138 =>
  lt1 (x130 + (1 : Int32)) fun x140 =>
  q297 σ138 x123 x124 x125 x126 x127 x128 x130 x129 x140)
def fL_foretells_297b (N : Nat) (q389 : St → Int32 → Int32 → Int32 → Int32 → Int32 → Int32 → Option (Int32 × St)) (q297 : St → Int32 → Int32 → Int32 → Int32 → Int32 → Int32 → Int32 → Int64 → Int32 → Option (Int32 × St)) (σ103 : St) (x94 : Int32) (x95 : Int32) (x96 : Int32) (x97 : Int32) (x98 : Int32) (x99 : Int32) (x100 : Int32) (x101 : Int64) (x102 : Int32) : Option (Int32 × St) :=
  if (4 : Int32) ≤ x102 then (
  q389 σ103 x94 x95 x97 x98 x99 x100)
  else (
  bd2 (fX2_setRule σ103 x102) fun r110 σ109 =>
  bd2 (fX2_run N σ109 x97) fun r113 σ112 =>
  if r113 = (x96 + x97) then (
  bd2 (fL_width N σ112 x94 (x96 + x97)) fun r119 σ118 =>
  if x100 < (0 : Int32) then (
  fL_foretells_351 N q297 σ118 x94 x95 x96 x97 x98 x99 x101 x102 r119)
  else (
  if x101 ≤ r119 then (
  if x100 = x102 then (
  bd2 (fX2_back σ118 x97) fun r160 σ159 =>
  lt1 (x102 + (1 : Int32)) fun x161 =>
  q297 σ159 x94 x95 x96 x97 x98 x99 x100 r119 x161)
  else (
  bd2 (fX2_back σ118 x97) fun r155 σ154 =>
  lt1 (x102 + (1 : Int32)) fun x156 =>
  q297 σ154 x94 x95 x96 x97 x98 x99 x100 x101 x156))
  else (
  fL_foretells_351 N q297 σ118 x94 x95 x96 x97 x98 x99 x101 x102 r119)))
  else (
  some ((0 : Int32), σ112)))
def fL_foretells_297 (N : Nat) (q389 : St → Int32 → Int32 → Int32 → Int32 → Int32 → Int32 → Option (Int32 × St)) : Nat → St → Int32 → Int32 → Int32 → Int32 → Int32 → Int32 → Int32 → Int64 → Int32 → Option (Int32 × St)
  | 0, _, _, _, _, _, _, _, _, _, _ => none
  | n + 1, σ, x94, x95, x96, x97, x98, x99, x100, x101, x102 => fL_foretells_297b N q389 (fL_foretells_297 N q389 n) σ x94 x95 x96 x97 x98 x99 x100 x101 x102
def fL_foretells_451 (N : Nat) (σ198 : St) (x192 : Int32) (x193 : Int32) (x194 : Int32) (x195 : Int32) (x196 : Int32) (x197 : Int32) : Option (Int32 × St) :=
  bd2 (fX2_setRule σ198 x194) fun r202 σ201 =>
  if r202 = (3 : Int32) then (
  if x195 = x193 then (
  if x197 = (0 : Int32) then (
  some ((0 : Int32), σ201))
  else (
  bd2 (fX2_worstStrategy N σ201 x192 (1 : Int32)) fun r214 σ213 =>
  if r214 = (-1001 : Int32) then (
  bd2 (fX2_worstStrategy N σ213 x196 (11 : Int32)) fun r220 σ219 =>
  if r220 = (-1002 : Int32) then (
  bd2 (fX2_bestRule N σ219 (0 : Int32)) fun r226 σ225 =>
  if r226 = (-1002 : Int32) then (
  some ((1 : Int32), σ225))
  else (
  some ((0 : Int32), σ225)))
  else (
  some ((0 : Int32), σ219)))
  else (
  some ((0 : Int32), σ213))))
  else (
  some ((0 : Int32), σ201)))
  else (
  some ((0 : Int32), σ201))
def fL_foretells_450 (N : Nat) (σ190 : St) (x185 : Int32) (x186 : Int32) (x187 : Int32) (x188 : Int32) (x189 : Int32) : Option (Int32 × St) :=
  fL_foretells_451 N σ190 x185 x186 x187 x188 x189 (0 : Int32)
def fL_foretells_196 (N : Nat) (σ61 : St) (x57 : Int32) (x58 : Int32) (x59 : Int32) (x60 : Int32) : Option (Int32 × St) :=
  bd2 (fX2_back σ61 x60) fun r65 σ64 =>
  if r65 = x59 then (
  bd2 (fX2_runTo N σ64 (1 : Int32) (0 : Int32) (1 : Int32)) fun r71 σ70 =>
  if r71 = (-1002 : Int32) then (
  bd2 (fX2_roundsTo N σ70 (0 : Int32) (1 : Int32) (61 : Int32)) fun r77 σ76 =>
  if r77 = (-1002 : Int32) then (
  bd0 (fL_low (x58 >>> ((5 : Int32) &&& 31)) (5 : Int32)) fun r82 =>
  lt1 ((1 : Int32) + r82) fun x83 =>
  bd2 (fX2_bestRule N σ76 x83) fun r87 σ86 =>
  if (x59 + x83) ≤ (60 : Int32) then (
  bd2 (fX2_count N σ86 (5 : Int32)) fun r93 σ92 =>
  fL_foretells_297 N (fun σ169 x163 x164 x165 x166 x167 x168 =>
 bd0 (fL_low (x164 >>> ((9 : Int32) &&& 31)) x163) fun r172 =>
  bd2 (fX2_worstStrategy N σ169 r172 x165) fun r175 σ174 =>
  bd2 (fX2_strategy σ174 r172) fun r178 σ177 =>
  if r178 = (0 : Int32) then (
  if r175 = (-1003 : Int32) then (
  fL_foretells_451 N σ177 x163 x166 x167 x168 r172 (1 : Int32))
  else (
  fL_foretells_451 N σ177 x163 x166 x167 x168 r172 (0 : Int32)))
  else (
  if r175 < (1 : Int32) then (
  fL_foretells_450 N σ177 x163 x166 x167 x168 r172)
  else (
  if (5 : Int32) < r175 then (
  fL_foretells_450 N σ177 x163 x166 x167 x168 r172)
  else (
  fL_foretells_451 N σ177 x163 x166 x167 x168 r172 (1 : Int32))))) N σ92 x57 x58 x59 x83 r87 r93 (-1 : Int32) (0 : Int64) (0 : Int32))
  else (
  if r87 = (-1004 : Int32) then (
  some ((1 : Int32), σ86))
  else (
  some ((0 : Int32), σ86))))
  else (
  some ((0 : Int32), σ76)))
  else (
  some ((0 : Int32), σ70)))
  else (
  some ((0 : Int32), σ64))
def fL_foretells_185 (N : Nat) (σ52 : St) (x48 : Int32) (x49 : Int32) (x50 : Int32) (x51 : Int32) : Option (Int32 × St) :=
  if x51 ≤ (0 : Int32) then (
  fL_foretells_196 N σ52 x48 x49 x50 (0 : Int32))
  else (
  fL_foretells_196 N σ52 x48 x49 x50 x51)
def fL_foretells_160 (N : Nat) (σ43 : St) (x39 : Int32) (x40 : Int32) (x41 : Int32) (x42 : Int32) : Option (Int32 × St) :=
  if (0 : Int32) ≤ x42 then (
  fL_foretells_185 N σ43 x39 x40 x41 x42)
  else (
  if x42 = (-1005 : Int32) then (
  bd2 (fX2_count N σ43 (3 : Int32)) fun r244 σ243 =>
  if r244 = x41 then (
  fL_foretells_185 N σ243 x39 x40 x41 x42)
  else (
  some ((0 : Int32), σ243)))
  else (
  some ((0 : Int32), σ43)))
def fL_foretells (N : Nat) (σ : St) (a1 : Int32) (a2 : Int32) (a3 : Int32) : Option (Int32 × St) :=
  bd2 (fX2_count N σ (3 : Int32)) fun r7 σ6 =>
  bd0 (fL_low a2 (50 : Int32)) fun r9 =>
  bd0 (fL_low (a2 >>> ((6 : Int32) &&& 31)) (9 : Int32)) fun r11 =>
  lt1 ((1 : Int32) + r11) fun x12 =>
  bd0 (fL_low a3 (12 : Int32)) fun r15 =>
  bd2 (fX2_roundsTo N σ6 r9 x12 r15) fun r18 σ17 =>
  bd2 (fX2_count N σ17 (3 : Int32)) fun r21 σ20 =>
  if r21 = r7 then (
  bd2 (fX2_runTo N σ20 r9 x12 r15) fun r27 σ26 =>
  bd2 (fX2_count N σ26 (2 : Int32)) fun r30 σ29 =>
  lt1 (r30.toInt64) fun x31 =>
  if r27 = r18 then (
  if r27 < (0 : Int32) then (
  fL_foretells_160 N σ29 a1 a3 r7 r27)
  else (
  bd2 (fX2_count N σ29 (3 : Int32)) fun r250 σ249 =>
  if r250 = (r7 + r27) then (
  bd2 (fL_width N σ249 a1 (r7 + r27)) fun r256 σ255 =>
  if ((r9.toInt64) * x31) < (r256 * (x12.toInt64)) then (
  some ((0 : Int32), σ255))
  else (
  if r27 ≤ (0 : Int32) then (
  fL_foretells_160 N σ255 a1 a3 r7 r27)
  else (
  bd2 (fL_width N σ255 a1 ((r7 + r27) - (1 : Int32))) fun r265 σ264 =>
  if (r265 * (x12.toInt64)) ≤ ((r9.toInt64) * x31) then (
  some ((0 : Int32), σ264))
  else (
  fL_foretells_160 N σ264 a1 a3 r7 r27))))
  else (
  some ((0 : Int32), σ249))))
  else (
  some ((0 : Int32), σ29)))
  else (
  some ((0 : Int32), σ20))
theorem wL_foretells_351 {l : Launch} {p : Program} {e : Env} {s : State} {m : MethodId} {args : Array Value} {below : List Frame} {meth : Method} {c : Code} {D : va_G} {A : Nat → Prop} {ad : Nat → Nat} {ca : Nat → ClassId} {rf : Int32} {σf : St} (C : Cb p s m args meth c RL cL_foretells 22) (X : Cx s D A (wX ad ca) (tyX ca)) (hr : meth.sig.returnType = (some .boolean)) {N : Nat} {q297 : St → Int32 → Int32 → Int32 → Int32 → Int32 → Int32 → Int32 → Int64 → Int32 → Option (Int32 × St)} (hq297 : ∀ (σ : St) (y0 : Int32) (y1 : Int32) (y2 : Int32) (y3 : Int32) (y4 : Int32) (y5 : Int32) (y6 : Int32) (y7 : Int64) (y8 : Int32), q297 σ y0 y1 y2 y3 y4 y5 y6 y7 y8 = some (rf, σf) → bW p l e rmL_foretells s m args below meth c 0 0 (MQ below (Qw D (wX ad ca) σf (some (.int rf)) A) args s 0 0 A) 22 (wd D A (wX ad ca) s σ) 297 [(0, .ref (ad 0)), (1, .int y0), (3, .int y1), (4, .int y2), (13, .int y3), (14, .int y4), (15, .int y5), (16, .int y6), (17, .long y7), (19, .int y8)] []) : ∀ (σ : St) (y0 : Int32) (y1 : Int32) (y2 : Int32) (y3 : Int32) (y4 : Int32) (y5 : Int32) (y6 : Int64) (y7 : Int32) (y8 : Int64), fL_foretells_351 N q297 σ y0 y1 y2 y3 y4 y5 y6 y7 y8 = some (rf, σf) → bW p l e rmL_foretells s m args below meth c 0 0 (MQ below (Qw D (wX ad ca) σf (some (.int rf)) A) args s 0 0 A) 22 (wd D A (wX ad ca) s σ) 351 [(0, .ref (ad 0)), (1, .int y0), (3, .int y1), (4, .int y2), (13, .int y3), (14, .int y4), (15, .int y5), (17, .long y6), (19, .int y7), (20, .long y8)] [] := by
  intro σ132 x123 x124 x125 x126 x127 x128 x129 x130 x131 h133
  refine b_iload C 8 dL_foretells_351 rfl ?_
  refine b_goto (tgt := 358) C dL_foretells_353 (by decide) ?_
  refine b_istore (lv' := [(16, .int x130), (0, .ref (ad 0)), (1, .int x123), (3, .int x124), (4, .int x125), (13, .int x126), (14, .int x127), (15, .int x128), (17, .long x129), (19, .int x130), (20, .long x131)]) C dL_foretells_358 (by decide) rfl ?_
  refine b_iload C 0 dL_foretells_360 rfl ?_
  refine b_iload C 9 dL_foretells_362 rfl ?_
  refine b_icmp_ne (tgt := 372) C dL_foretells_364 (by decide) (fun c134 => ?_) (fun c134 => ?_)
  · have h135 := ineg h133 c134; clear h133
    refine b_lload C 8 dL_foretells_372 rfl ?_
    refine b_lstore (lv' := [(17, .long x129), (16, .int x130), (0, .ref (ad 0)), (1, .int x123), (3, .int x124), (4, .int x125), (13, .int x126), (14, .int x127), (15, .int x128), (19, .int x130), (20, .long x131)]) C dL_foretells_374 (by decide) rfl ?_
    refine b_aload_n C 2 dL_foretells_376 rfl rfl ?_
    refine b_iload C 6 dL_foretells_377 rfl ?_
    obtain ⟨r139, σ138, ec137, h137⟩ := bd2_inv h135; clear h135
    refine b_callWi (rest := []) C (sameX ad ca) X dL_foretells_379 (ctX2_back ec137) mf_X2_back mi_X2_back kl_L_80 0 rfl rfl rfl rfl ⟨rfl, rfl⟩ ⟨Nat.le_of_ble_eq_true rfl, Nat.le_of_ble_eq_true rfl⟩ ⟨Nat.zero_le _, Nat.zero_le _⟩ rfl (Nat.le_of_ble_eq_true rfl) ?_
    refine b_pop C dL_foretells_382 rfl ?_
    obtain ⟨x140, ex140, h141⟩ := lt1_inv h137; clear h137
    refine b_iinc (v := x140) (lv' := [(19, .int x140), (17, .long x129), (16, .int x130), (0, .ref (ad 0)), (1, .int x123), (3, .int x124), (4, .int x125), (13, .int x126), (14, .int x127), (15, .int x128), (20, .long x131)]) C 9 dL_foretells_383 rfl (by rw [ex140]; rfl) (by decide) rfl ?_
    refine b_goto (tgt := 297) C dL_foretells_386 (by decide) ?_
    exact b_sub [3, 4, 5, 6, 7, 8, 9, 2, 1, 0] rfl (hq297 _ _ _ _ _ _ _ _ _ _ h141)
  have h136 := ipos h133 c134; clear h133
  refine b_lload C 10 dL_foretells_367 rfl ?_
  refine b_goto (tgt := 374) C dL_foretells_369 (by decide) ?_
  refine b_lstore (lv' := [(17, .long x131), (16, .int x130), (0, .ref (ad 0)), (1, .int x123), (3, .int x124), (4, .int x125), (13, .int x126), (14, .int x127), (15, .int x128), (19, .int x130), (20, .long x131)]) C dL_foretells_374 (by decide) rfl ?_
  refine b_aload_n C 2 dL_foretells_376 rfl rfl ?_
  refine b_iload C 6 dL_foretells_377 rfl ?_
  obtain ⟨r144, σ143, ec142, h142⟩ := bd2_inv h136; clear h136
  refine b_callWi (rest := []) C (sameX ad ca) X dL_foretells_379 (ctX2_back ec142) mf_X2_back mi_X2_back kl_L_80 0 rfl rfl rfl rfl ⟨rfl, rfl⟩ ⟨Nat.le_of_ble_eq_true rfl, Nat.le_of_ble_eq_true rfl⟩ ⟨Nat.zero_le _, Nat.zero_le _⟩ rfl (Nat.le_of_ble_eq_true rfl) ?_
  refine b_pop C dL_foretells_382 rfl ?_
  obtain ⟨x145, ex145, h146⟩ := lt1_inv h142; clear h142
  refine b_iinc (v := x145) (lv' := [(19, .int x145), (17, .long x131), (16, .int x130), (0, .ref (ad 0)), (1, .int x123), (3, .int x124), (4, .int x125), (13, .int x126), (14, .int x127), (15, .int x128), (20, .long x131)]) C 9 dL_foretells_383 rfl (by rw [ex145]; rfl) (by decide) rfl ?_
  refine b_goto (tgt := 297) C dL_foretells_386 (by decide) ?_
  exact b_sub [3, 4, 5, 6, 7, 8, 9, 2, 1, 0] rfl (hq297 _ _ _ _ _ _ _ _ _ _ h146)
theorem wL_foretells_297 {l : Launch} {p : Program} {e : Env} {s : State} {m : MethodId} {args : Array Value} {below : List Frame} {meth : Method} {c : Code} {D : va_G} {A : Nat → Prop} {ad : Nat → Nat} {ca : Nat → ClassId} {rf : Int32} {σf : St} (C : Cb p s m args meth c RL cL_foretells 22) (X : Cx s D A (wX ad ca) (tyX ca)) (hr : meth.sig.returnType = (some .boolean)) {N : Nat} {q389 : St → Int32 → Int32 → Int32 → Int32 → Int32 → Int32 → Option (Int32 × St)} (hq389 : ∀ (σ : St) (y0 : Int32) (y1 : Int32) (y2 : Int32) (y3 : Int32) (y4 : Int32) (y5 : Int32), q389 σ y0 y1 y2 y3 y4 y5 = some (rf, σf) → bW p l e rmL_foretells s m args below meth c 0 0 (MQ below (Qw D (wX ad ca) σf (some (.int rf)) A) args s 0 0 A) 22 (wd D A (wX ad ca) s σ) 389 [(0, .ref (ad 0)), (1, .int y0), (3, .int y1), (13, .int y2), (14, .int y3), (15, .int y4), (16, .int y5)] []) : ∀ n : Nat, ∀ (σ : St) (y0 : Int32) (y1 : Int32) (y2 : Int32) (y3 : Int32) (y4 : Int32) (y5 : Int32) (y6 : Int32) (y7 : Int64) (y8 : Int32), fL_foretells_297 N q389 n σ y0 y1 y2 y3 y4 y5 y6 y7 y8 = some (rf, σf) → bW p l e rmL_foretells s m args below meth c 0 0 (MQ below (Qw D (wX ad ca) σf (some (.int rf)) A) args s 0 0 A) 22 (wd D A (wX ad ca) s σ) 297 [(0, .ref (ad 0)), (1, .int y0), (3, .int y1), (4, .int y2), (13, .int y3), (14, .int y4), (15, .int y5), (16, .int y6), (17, .long y7), (19, .int y8)] [] := by
  intro n
  induction n with
  | zero => intro σ103 x94 x95 x96 x97 x98 x99 x100 x101 x102 h104; exact nn h104
  | succ n hq297 =>
    intro σ103 x94 x95 x96 x97 x98 x99 x100 x101 x102 h104
    replace h104 : fL_foretells_297b N q389 (fL_foretells_297 N q389 n) σ103 x94 x95 x96 x97 x98 x99 x100 x101 x102 = some (rf, σf) := h104
    refine b_iload C 9 dL_foretells_297 rfl ?_
    refine b_iconst (v := (4 : Int32)) C dL_foretells_299 (by decide) ?_
    refine b_icmp_ge (tgt := 389) C dL_foretells_300 (by decide) (fun c105 => ?_) (fun c105 => ?_)
    · have h106 := ipos h104 c105; clear h104
      exact b_sub [0, 1, 2, 4, 5, 6, 7] rfl (hq389 _ _ _ _ _ _ _ h106)
    have h107 := ineg h104 c105; clear h104
    refine b_aload_n C 0 dL_foretells_303 rfl rfl ?_
    refine b_iload C 9 dL_foretells_304 rfl ?_
    obtain ⟨r110, σ109, ec108, h108⟩ := bd2_inv h107; clear h107
    refine b_callWi (rest := []) C (sameX ad ca) X dL_foretells_306 (ctX2_setRule ec108) mf_X2_setRule mi_X2_setRule kl_L_114 0 rfl rfl rfl rfl ⟨rfl, rfl⟩ ⟨Nat.le_of_ble_eq_true rfl, Nat.le_of_ble_eq_true rfl⟩ ⟨Nat.zero_le _, Nat.zero_le _⟩ rfl (Nat.le_of_ble_eq_true rfl) ?_
    refine b_pop C dL_foretells_309 rfl ?_
    refine b_aload_n C 0 dL_foretells_310 rfl rfl ?_
    refine b_iload C 4 dL_foretells_311 rfl ?_
    obtain ⟨r113, σ112, ec111, h111⟩ := bd2_inv h108; clear h108
    refine b_callWi (rest := []) C (sameX ad ca) X dL_foretells_313 (ctX2_run ec111) mf_X2_run mi_X2_run kl_L_77 0 rfl rfl rfl rfl ⟨rfl, rfl⟩ ⟨Nat.le_of_ble_eq_true rfl, Nat.le_of_ble_eq_true rfl⟩ ⟨Nat.zero_le _, Nat.zero_le _⟩ rfl (Nat.le_of_ble_eq_true rfl) ?_
    refine b_iload C 3 dL_foretells_316 rfl ?_
    refine b_iload C 4 dL_foretells_318 rfl ?_
    refine b_iadd C dL_foretells_320 ?_
    refine b_icmp_eq (tgt := 326) C dL_foretells_321 (by decide) (fun c114 => ?_) (fun c114 => ?_)
    · have h115 := ipos h111 c114; clear h111
      refine b_aload_n C 0 dL_foretells_326 rfl rfl ?_
      refine b_iload_n C 1 dL_foretells_327 rfl rfl ?_
      refine b_iload C 3 dL_foretells_328 rfl ?_
      refine b_iload C 4 dL_foretells_330 rfl ?_
      refine b_iadd C dL_foretells_332 ?_
      obtain ⟨r119, σ118, ec117, h117⟩ := bd2_inv h115; clear h115
      refine b_callSWl (rest := []) C (sameX ad ca) X dL_foretells_333 (ctL_width ec117) mf_L_width ms_L_width kl_L_91 rfl ⟨rfl, rfl⟩ ⟨Nat.le_of_ble_eq_true rfl, Nat.le_of_ble_eq_true rfl⟩ ⟨Nat.zero_le _, Nat.zero_le _⟩ rfl (Nat.le_of_ble_eq_true rfl) ?_
      refine b_lstore (lv' := [(20, .long r119), (0, .ref (ad 0)), (1, .int x94), (3, .int x95), (4, .int x96), (13, .int x97), (14, .int x98), (15, .int x99), (16, .int x100), (17, .long x101), (19, .int x102)]) C dL_foretells_336 (by decide) rfl ?_
      refine b_iload C 8 dL_foretells_338 rfl ?_
      refine b_if_lt (tgt := 351) C dL_foretells_340 (by decide) (fun c120 => ?_) (fun c120 => ?_)
      · have h121 := ipos h117 c120; clear h117
        exact b_sub [1, 2, 3, 4, 5, 6, 7, 9, 10, 0] rfl (wL_foretells_351 C X hr hq297 _ _ _ _ _ _ _ _ _ _ h121)
      have h122 := ineg h117 c120; clear h117
      refine b_lload C 0 dL_foretells_343 rfl ?_
      refine b_lload C 9 dL_foretells_345 rfl ?_
      refine b_lc_ge (tgt := 356) C dL_foretells_347 dL_foretells_348 (by decide) (fun c147 => ?_) (fun c147 => ?_)
      · have h148 := ipos h122 c147; clear h122
        refine b_iload C 8 dL_foretells_356 rfl ?_
        refine b_istore (lv' := [(16, .int x100), (20, .long r119), (0, .ref (ad 0)), (1, .int x94), (3, .int x95), (4, .int x96), (13, .int x97), (14, .int x98), (15, .int x99), (17, .long x101), (19, .int x102)]) C dL_foretells_358 (by decide) rfl ?_
        refine b_iload C 0 dL_foretells_360 rfl ?_
        refine b_iload C 10 dL_foretells_362 rfl ?_
        refine b_icmp_ne (tgt := 372) C dL_foretells_364 (by decide) (fun c150 => ?_) (fun c150 => ?_)
        · have h151 := ineg h148 c150; clear h148
          refine b_lload C 9 dL_foretells_372 rfl ?_
          refine b_lstore (lv' := [(17, .long x101), (16, .int x100), (20, .long r119), (0, .ref (ad 0)), (1, .int x94), (3, .int x95), (4, .int x96), (13, .int x97), (14, .int x98), (15, .int x99), (19, .int x102)]) C dL_foretells_374 (by decide) rfl ?_
          refine b_aload_n C 3 dL_foretells_376 rfl rfl ?_
          refine b_iload C 7 dL_foretells_377 rfl ?_
          obtain ⟨r155, σ154, ec153, h153⟩ := bd2_inv h151; clear h151
          refine b_callWi (rest := []) C (sameX ad ca) X dL_foretells_379 (ctX2_back ec153) mf_X2_back mi_X2_back kl_L_80 0 rfl rfl rfl rfl ⟨rfl, rfl⟩ ⟨Nat.le_of_ble_eq_true rfl, Nat.le_of_ble_eq_true rfl⟩ ⟨Nat.zero_le _, Nat.zero_le _⟩ rfl (Nat.le_of_ble_eq_true rfl) ?_
          refine b_pop C dL_foretells_382 rfl ?_
          obtain ⟨x156, ex156, h157⟩ := lt1_inv h153; clear h153
          refine b_iinc (v := x156) (lv' := [(19, .int x156), (17, .long x101), (16, .int x100), (20, .long r119), (0, .ref (ad 0)), (1, .int x94), (3, .int x95), (4, .int x96), (13, .int x97), (14, .int x98), (15, .int x99)]) C 10 dL_foretells_383 rfl (by rw [ex156]; rfl) (by decide) rfl ?_
          refine b_goto (tgt := 297) C dL_foretells_386 (by decide) ?_
          exact b_sub [4, 5, 6, 7, 8, 9, 10, 2, 1, 0] rfl (hq297 _ _ _ _ _ _ _ _ _ _ h157)
        have h152 := ipos h148 c150; clear h148
        refine b_lload C 1 dL_foretells_367 rfl ?_
        refine b_goto (tgt := 374) C dL_foretells_369 (by decide) ?_
        refine b_lstore (lv' := [(17, .long r119), (16, .int x100), (20, .long r119), (0, .ref (ad 0)), (1, .int x94), (3, .int x95), (4, .int x96), (13, .int x97), (14, .int x98), (15, .int x99), (19, .int x102)]) C dL_foretells_374 (by decide) rfl ?_
        refine b_aload_n C 3 dL_foretells_376 rfl rfl ?_
        refine b_iload C 7 dL_foretells_377 rfl ?_
        obtain ⟨r160, σ159, ec158, h158⟩ := bd2_inv h152; clear h152
        refine b_callWi (rest := []) C (sameX ad ca) X dL_foretells_379 (ctX2_back ec158) mf_X2_back mi_X2_back kl_L_80 0 rfl rfl rfl rfl ⟨rfl, rfl⟩ ⟨Nat.le_of_ble_eq_true rfl, Nat.le_of_ble_eq_true rfl⟩ ⟨Nat.zero_le _, Nat.zero_le _⟩ rfl (Nat.le_of_ble_eq_true rfl) ?_
        refine b_pop C dL_foretells_382 rfl ?_
        obtain ⟨x161, ex161, h162⟩ := lt1_inv h158; clear h158
        refine b_iinc (v := x161) (lv' := [(19, .int x161), (17, .long r119), (16, .int x100), (20, .long r119), (0, .ref (ad 0)), (1, .int x94), (3, .int x95), (4, .int x96), (13, .int x97), (14, .int x98), (15, .int x99)]) C 10 dL_foretells_383 rfl (by rw [ex161]; rfl) (by decide) rfl ?_
        refine b_goto (tgt := 297) C dL_foretells_386 (by decide) ?_
        exact b_sub [4, 5, 6, 7, 8, 9, 10, 2, 1, 0] rfl (hq297 _ _ _ _ _ _ _ _ _ _ h162)
      have h149 := ineg h122 c147; clear h122
      exact b_sub [1, 2, 3, 4, 5, 6, 7, 9, 10, 0] rfl (wL_foretells_351 C X hr hq297 _ _ _ _ _ _ _ _ _ _ h149)
    have h116 := ineg h111 c114; clear h111
    refine b_iconst (v := (0 : Int32)) C dL_foretells_324 (by decide) ?_
    obtain ⟨rfl, rfl⟩ := so2 h116
    exact b_zret C dL_foretells_325 hr rfl
theorem wL_foretells_451 {l : Launch} {p : Program} {e : Env} {s : State} {m : MethodId} {args : Array Value} {below : List Frame} {meth : Method} {c : Code} {D : va_G} {A : Nat → Prop} {ad : Nat → Nat} {ca : Nat → ClassId} {rf : Int32} {σf : St} (C : Cb p s m args meth c RL cL_foretells 22) (X : Cx s D A (wX ad ca) (tyX ca)) (hr : meth.sig.returnType = (some .boolean)) {N : Nat} : ∀ (σ : St) (y0 : Int32) (y1 : Int32) (y2 : Int32) (y3 : Int32) (y4 : Int32) (y5 : Int32), fL_foretells_451 N σ y0 y1 y2 y3 y4 y5 = some (rf, σf) → bW p l e rmL_foretells s m args below meth c 0 0 (MQ below (Qw D (wX ad ca) σf (some (.int rf)) A) args s 0 0 A) 22 (wd D A (wX ad ca) s σ) 451 [(0, .ref (ad 0)), (1, .int y0), (14, .int y1), (15, .int y2), (16, .int y3), (19, .int y4)] [.int y5] := by
  intro σ198 x192 x193 x194 x195 x196 x197 h199
  refine b_istore (lv' := [(21, .int x197), (0, .ref (ad 0)), (1, .int x192), (14, .int x193), (15, .int x194), (16, .int x195), (19, .int x196)]) C dL_foretells_451 (by decide) rfl ?_
  refine b_aload_n C 1 dL_foretells_453 rfl rfl ?_
  refine b_iload C 4 dL_foretells_454 rfl ?_
  obtain ⟨r202, σ201, ec200, h200⟩ := bd2_inv h199; clear h199
  refine b_callWi (rest := []) C (sameX ad ca) X dL_foretells_456 (ctX2_setRule ec200) mf_X2_setRule mi_X2_setRule kl_L_114 0 rfl rfl rfl rfl ⟨rfl, rfl⟩ ⟨Nat.le_of_ble_eq_true rfl, Nat.le_of_ble_eq_true rfl⟩ ⟨Nat.zero_le _, Nat.zero_le _⟩ rfl (Nat.le_of_ble_eq_true rfl) ?_
  refine b_iconst (v := (3 : Int32)) C dL_foretells_459 (by decide) ?_
  refine b_icmp_ne (tgt := 516) C dL_foretells_460 (by decide) (fun c203 => ?_) (fun c203 => ?_)
  · have h204 := ineg h200 c203; clear h200
    refine b_iconst (v := (0 : Int32)) C dL_foretells_516 (by decide) ?_
    obtain ⟨rfl, rfl⟩ := so2 h204
    exact b_zret C dL_foretells_517 hr rfl
  have h205 := ipos h200 c203; clear h200
  refine b_iload C 5 dL_foretells_463 rfl ?_
  refine b_iload C 3 dL_foretells_465 rfl ?_
  refine b_icmp_ne (tgt := 516) C dL_foretells_467 (by decide) (fun c206 => ?_) (fun c206 => ?_)
  · have h207 := ineg h205 c206; clear h205
    refine b_iconst (v := (0 : Int32)) C dL_foretells_516 (by decide) ?_
    obtain ⟨rfl, rfl⟩ := so2 h207
    exact b_zret C dL_foretells_517 hr rfl
  have h208 := ipos h205 c206; clear h205
  refine b_iload C 0 dL_foretells_470 rfl ?_
  refine b_if_eq (tgt := 516) C dL_foretells_472 (by decide) (fun c209 => ?_) (fun c209 => ?_)
  · have h210 := ipos h208 c209; clear h208
    refine b_iconst (v := (0 : Int32)) C dL_foretells_516 (by decide) ?_
    obtain ⟨rfl, rfl⟩ := so2 h210
    exact b_zret C dL_foretells_517 hr rfl
  have h211 := ineg h208 c209; clear h208
  refine b_aload_n C 1 dL_foretells_475 rfl rfl ?_
  refine b_iload_n C 2 dL_foretells_476 rfl rfl ?_
  refine b_iconst (v := (1 : Int32)) C dL_foretells_477 (by decide) ?_
  obtain ⟨r214, σ213, ec212, h212⟩ := bd2_inv h211; clear h211
  refine b_callWi (rest := []) C (sameX ad ca) X dL_foretells_478 (ctX2_worstStrategy ec212) mf_X2_worstStrategy mi_X2_worstStrategy kl_L_117 0 rfl rfl rfl rfl ⟨rfl, rfl⟩ ⟨Nat.le_of_ble_eq_true rfl, Nat.le_of_ble_eq_true rfl⟩ ⟨Nat.zero_le _, Nat.zero_le _⟩ rfl (Nat.le_of_ble_eq_true rfl) ?_
  refine b_sipush (v := (-1001 : Int32)) C dL_foretells_481 (by decide) ?_
  refine b_icmp_ne (tgt := 516) C dL_foretells_484 (by decide) (fun c215 => ?_) (fun c215 => ?_)
  · have h216 := ineg h212 c215; clear h212
    refine b_iconst (v := (0 : Int32)) C dL_foretells_516 (by decide) ?_
    obtain ⟨rfl, rfl⟩ := so2 h216
    exact b_zret C dL_foretells_517 hr rfl
  have h217 := ipos h212 c215; clear h212
  refine b_aload_n C 1 dL_foretells_487 rfl rfl ?_
  refine b_iload C 6 dL_foretells_488 rfl ?_
  refine b_bipush (v := (11 : Int32)) C dL_foretells_490 (by decide) ?_
  obtain ⟨r220, σ219, ec218, h218⟩ := bd2_inv h217; clear h217
  refine b_callWi (rest := []) C (sameX ad ca) X dL_foretells_492 (ctX2_worstStrategy ec218) mf_X2_worstStrategy mi_X2_worstStrategy kl_L_117 0 rfl rfl rfl rfl ⟨rfl, rfl⟩ ⟨Nat.le_of_ble_eq_true rfl, Nat.le_of_ble_eq_true rfl⟩ ⟨Nat.zero_le _, Nat.zero_le _⟩ rfl (Nat.le_of_ble_eq_true rfl) ?_
  refine b_sipush (v := (-1002 : Int32)) C dL_foretells_495 (by decide) ?_
  refine b_icmp_ne (tgt := 516) C dL_foretells_498 (by decide) (fun c221 => ?_) (fun c221 => ?_)
  · have h222 := ineg h218 c221; clear h218
    refine b_iconst (v := (0 : Int32)) C dL_foretells_516 (by decide) ?_
    obtain ⟨rfl, rfl⟩ := so2 h222
    exact b_zret C dL_foretells_517 hr rfl
  have h223 := ipos h218 c221; clear h218
  refine b_aload_n C 1 dL_foretells_501 rfl rfl ?_
  refine b_iconst (v := (0 : Int32)) C dL_foretells_502 (by decide) ?_
  obtain ⟨r226, σ225, ec224, h224⟩ := bd2_inv h223; clear h223
  refine b_callWi (rest := []) C (sameX ad ca) X dL_foretells_503 (ctX2_bestRule ec224) mf_X2_bestRule mi_X2_bestRule kl_L_111 0 rfl rfl rfl rfl ⟨rfl, rfl⟩ ⟨Nat.le_of_ble_eq_true rfl, Nat.le_of_ble_eq_true rfl⟩ ⟨Nat.zero_le _, Nat.zero_le _⟩ rfl (Nat.le_of_ble_eq_true rfl) ?_
  refine b_sipush (v := (-1002 : Int32)) C dL_foretells_506 (by decide) ?_
  refine b_icmp_ne (tgt := 516) C dL_foretells_509 (by decide) (fun c227 => ?_) (fun c227 => ?_)
  · have h228 := ineg h224 c227; clear h224
    refine b_iconst (v := (0 : Int32)) C dL_foretells_516 (by decide) ?_
    obtain ⟨rfl, rfl⟩ := so2 h228
    exact b_zret C dL_foretells_517 hr rfl
  have h229 := ipos h224 c227; clear h224
  refine b_iconst (v := (1 : Int32)) C dL_foretells_512 (by decide) ?_
  refine b_goto (tgt := 517) C dL_foretells_513 (by decide) ?_
  obtain ⟨rfl, rfl⟩ := so2 h229
  exact b_zret C dL_foretells_517 hr rfl
theorem wL_foretells_450 {l : Launch} {p : Program} {e : Env} {s : State} {m : MethodId} {args : Array Value} {below : List Frame} {meth : Method} {c : Code} {D : va_G} {A : Nat → Prop} {ad : Nat → Nat} {ca : Nat → ClassId} {rf : Int32} {σf : St} (C : Cb p s m args meth c RL cL_foretells 22) (X : Cx s D A (wX ad ca) (tyX ca)) (hr : meth.sig.returnType = (some .boolean)) {N : Nat} : ∀ (σ : St) (y0 : Int32) (y1 : Int32) (y2 : Int32) (y3 : Int32) (y4 : Int32), fL_foretells_450 N σ y0 y1 y2 y3 y4 = some (rf, σf) → bW p l e rmL_foretells s m args below meth c 0 0 (MQ below (Qw D (wX ad ca) σf (some (.int rf)) A) args s 0 0 A) 22 (wd D A (wX ad ca) s σ) 450 [(0, .ref (ad 0)), (1, .int y0), (14, .int y1), (15, .int y2), (16, .int y3), (19, .int y4)] [] := by
  intro σ190 x185 x186 x187 x188 x189 h191
  refine b_iconst (v := (0 : Int32)) C dL_foretells_450 (by decide) ?_
  exact b_sub [0, 1, 2, 3, 4, 5] rfl (wL_foretells_451 C X hr _ _ _ _ _ _ _ h191)
theorem wL_foretells_196 {l : Launch} {p : Program} {e : Env} {s : State} {m : MethodId} {args : Array Value} {below : List Frame} {meth : Method} {c : Code} {D : va_G} {A : Nat → Prop} {ad : Nat → Nat} {ca : Nat → ClassId} {rf : Int32} {σf : St} (C : Cb p s m args meth c RL cL_foretells 22) (X : Cx s D A (wX ad ca) (tyX ca)) (hr : meth.sig.returnType = (some .boolean)) {N : Nat} : ∀ (σ : St) (y0 : Int32) (y1 : Int32) (y2 : Int32) (y3 : Int32), fL_foretells_196 N σ y0 y1 y2 y3 = some (rf, σf) → bW p l e rmL_foretells s m args below meth c 0 0 (MQ below (Qw D (wX ad ca) σf (some (.int rf)) A) args s 0 0 A) 22 (wd D A (wX ad ca) s σ) 196 [(0, .ref (ad 0)), (1, .int y0), (3, .int y1), (4, .int y2)] [.int y3] := by
  intro σ61 x57 x58 x59 x60 h62
  refine b_istore (lv' := [(12, .int x60), (0, .ref (ad 0)), (1, .int x57), (3, .int x58), (4, .int x59)]) C dL_foretells_196 (by decide) rfl ?_
  refine b_aload_n C 1 dL_foretells_198 rfl rfl ?_
  refine b_iload C 0 dL_foretells_199 rfl ?_
  obtain ⟨r65, σ64, ec63, h63⟩ := bd2_inv h62; clear h62
  refine b_callWi (rest := []) C (sameX ad ca) X dL_foretells_201 (ctX2_back ec63) mf_X2_back mi_X2_back kl_L_80 0 rfl rfl rfl rfl ⟨rfl, rfl⟩ ⟨Nat.le_of_ble_eq_true rfl, Nat.le_of_ble_eq_true rfl⟩ ⟨Nat.zero_le _, Nat.zero_le _⟩ rfl (Nat.le_of_ble_eq_true rfl) ?_
  refine b_iload C 4 dL_foretells_204 rfl ?_
  refine b_icmp_ne (tgt := 236) C dL_foretells_206 (by decide) (fun c66 => ?_) (fun c66 => ?_)
  · have h67 := ineg h63 c66; clear h63
    refine b_iconst (v := (0 : Int32)) C dL_foretells_236 (by decide) ?_
    obtain ⟨rfl, rfl⟩ := so2 h67
    exact b_zret C dL_foretells_237 hr rfl
  have h68 := ipos h63 c66; clear h63
  refine b_aload_n C 1 dL_foretells_209 rfl rfl ?_
  refine b_iconst (v := (1 : Int32)) C dL_foretells_210 (by decide) ?_
  refine b_iconst (v := (0 : Int32)) C dL_foretells_211 (by decide) ?_
  refine b_iconst (v := (1 : Int32)) C dL_foretells_212 (by decide) ?_
  obtain ⟨r71, σ70, ec69, h69⟩ := bd2_inv h68; clear h68
  refine b_callWi (rest := []) C (sameX ad ca) X dL_foretells_213 (ctX2_runTo ec69) mf_X2_runTo mi_X2_runTo kl_L_108 0 rfl rfl rfl rfl ⟨rfl, rfl⟩ ⟨Nat.le_of_ble_eq_true rfl, Nat.le_of_ble_eq_true rfl⟩ ⟨Nat.zero_le _, Nat.zero_le _⟩ rfl (Nat.le_of_ble_eq_true rfl) ?_
  refine b_sipush (v := (-1002 : Int32)) C dL_foretells_216 (by decide) ?_
  refine b_icmp_ne (tgt := 236) C dL_foretells_219 (by decide) (fun c72 => ?_) (fun c72 => ?_)
  · have h73 := ineg h69 c72; clear h69
    refine b_iconst (v := (0 : Int32)) C dL_foretells_236 (by decide) ?_
    obtain ⟨rfl, rfl⟩ := so2 h73
    exact b_zret C dL_foretells_237 hr rfl
  have h74 := ipos h69 c72; clear h69
  refine b_aload_n C 1 dL_foretells_222 rfl rfl ?_
  refine b_iconst (v := (0 : Int32)) C dL_foretells_223 (by decide) ?_
  refine b_iconst (v := (1 : Int32)) C dL_foretells_224 (by decide) ?_
  refine b_bipush (v := (61 : Int32)) C dL_foretells_225 (by decide) ?_
  obtain ⟨r77, σ76, ec75, h75⟩ := bd2_inv h74; clear h74
  refine b_callWi (rest := []) C (sameX ad ca) X dL_foretells_227 (ctX2_roundsTo ec75) mf_X2_roundsTo mi_X2_roundsTo kl_L_104 0 rfl rfl rfl rfl ⟨rfl, rfl⟩ ⟨Nat.le_of_ble_eq_true rfl, Nat.le_of_ble_eq_true rfl⟩ ⟨Nat.zero_le _, Nat.zero_le _⟩ rfl (Nat.le_of_ble_eq_true rfl) ?_
  refine b_sipush (v := (-1002 : Int32)) C dL_foretells_230 (by decide) ?_
  refine b_icmp_eq (tgt := 238) C dL_foretells_233 (by decide) (fun c78 => ?_) (fun c78 => ?_)
  · have h79 := ipos h75 c78; clear h75
    refine b_iconst (v := (1 : Int32)) C dL_foretells_238 (by decide) ?_
    refine b_iload_n C 3 dL_foretells_239 rfl rfl ?_
    refine b_iconst (v := (5 : Int32)) C dL_foretells_240 (by decide) ?_
    refine b_ishr C dL_foretells_241 ?_
    refine b_iconst (v := (5 : Int32)) C dL_foretells_242 (by decide) ?_
    obtain ⟨r82, ec81, h81⟩ := bd0_inv h79; clear h79
    refine b_callSi (rest := [.int (1 : Int32)]) C dL_foretells_243 (ctL_low ec81) mf_L_low ms_L_low kl_L_32 rfl ⟨rfl, rfl⟩ ⟨Nat.le_of_ble_eq_true rfl, Nat.le_of_ble_eq_true rfl⟩ ⟨Nat.zero_le _, Nat.zero_le _⟩ rfl (Nat.le_of_ble_eq_true rfl) ?_
    refine b_iadd C dL_foretells_246 ?_
    obtain ⟨x83, ex83, h84⟩ := lt1_inv h81; clear h81
    refine b_nmI ex83 ?_
    refine b_istore (lv' := [(13, .int x83), (12, .int x60), (0, .ref (ad 0)), (1, .int x57), (3, .int x58), (4, .int x59)]) C dL_foretells_247 (by decide) rfl ?_
    refine b_aload_n C 2 dL_foretells_249 rfl rfl ?_
    refine b_iload C 0 dL_foretells_250 rfl ?_
    obtain ⟨r87, σ86, ec85, h85⟩ := bd2_inv h84; clear h84
    refine b_callWi (rest := []) C (sameX ad ca) X dL_foretells_252 (ctX2_bestRule ec85) mf_X2_bestRule mi_X2_bestRule kl_L_111 0 rfl rfl rfl rfl ⟨rfl, rfl⟩ ⟨Nat.le_of_ble_eq_true rfl, Nat.le_of_ble_eq_true rfl⟩ ⟨Nat.zero_le _, Nat.zero_le _⟩ rfl (Nat.le_of_ble_eq_true rfl) ?_
    refine b_istore (lv' := [(14, .int r87), (13, .int x83), (12, .int x60), (0, .ref (ad 0)), (1, .int x57), (3, .int x58), (4, .int x59)]) C dL_foretells_255 (by decide) rfl ?_
    refine b_iload C 6 dL_foretells_257 rfl ?_
    refine b_iload C 1 dL_foretells_259 rfl ?_
    refine b_iadd C dL_foretells_261 ?_
    refine b_bipush (v := (60 : Int32)) C dL_foretells_262 (by decide) ?_
    refine b_icmp_le (tgt := 281) C dL_foretells_264 (by decide) (fun c88 => ?_) (fun c88 => ?_)
    · have h89 := ipos h85 c88; clear h85
      refine b_aload_n C 3 dL_foretells_281 rfl rfl ?_
      refine b_iconst (v := (5 : Int32)) C dL_foretells_282 (by decide) ?_
      obtain ⟨r93, σ92, ec91, h91⟩ := bd2_inv h89; clear h89
      refine b_callWi (rest := []) C (sameX ad ca) X dL_foretells_283 (ctX2_count ec91) mf_X2_count mi_X2_count kl_L_40 0 rfl rfl rfl rfl ⟨rfl, rfl⟩ ⟨Nat.le_of_ble_eq_true rfl, Nat.le_of_ble_eq_true rfl⟩ ⟨Nat.zero_le _, Nat.zero_le _⟩ rfl (Nat.le_of_ble_eq_true rfl) ?_
      refine b_istore (lv' := [(15, .int r93), (14, .int r87), (13, .int x83), (12, .int x60), (0, .ref (ad 0)), (1, .int x57), (3, .int x58), (4, .int x59)]) C dL_foretells_286 (by decide) rfl ?_
      refine b_iconst (v := (-1 : Int32)) C dL_foretells_288 (by decide) ?_
      refine b_istore (lv' := [(16, .int (-1 : Int32)), (15, .int r93), (14, .int r87), (13, .int x83), (12, .int x60), (0, .ref (ad 0)), (1, .int x57), (3, .int x58), (4, .int x59)]) C dL_foretells_289 (by decide) rfl ?_
      refine b_lconst (v := (0 : Int64)) C dL_foretells_291 (by decide) ?_
      refine b_lstore (lv' := [(17, .long (0 : Int64)), (16, .int (-1 : Int32)), (15, .int r93), (14, .int r87), (13, .int x83), (12, .int x60), (0, .ref (ad 0)), (1, .int x57), (3, .int x58), (4, .int x59)]) C dL_foretells_292 (by decide) rfl ?_
      refine b_iconst (v := (0 : Int32)) C dL_foretells_294 (by decide) ?_
      refine b_istore (lv' := [(19, .int (0 : Int32)), (17, .long (0 : Int64)), (16, .int (-1 : Int32)), (15, .int r93), (14, .int r87), (13, .int x83), (12, .int x60), (0, .ref (ad 0)), (1, .int x57), (3, .int x58), (4, .int x59)]) C dL_foretells_295 (by decide) rfl ?_
      refine b_sub [7, 8, 9, 10, 5, 4, 3, 2, 1, 0] rfl (wL_foretells_297 C X hr (fun σ169 x163 x164 x165 x166 x167 x168 h170 => ?_) _ _ _ _ _ _ _ _ _ _ _ h91)
      refine b_iload_n C 2 dL_foretells_389 rfl rfl ?_
      refine b_bipush (v := (9 : Int32)) C dL_foretells_390 (by decide) ?_
      refine b_ishr C dL_foretells_392 ?_
      refine b_iload_n C 1 dL_foretells_393 rfl rfl ?_
      obtain ⟨r172, ec171, h171⟩ := bd0_inv h170; clear h170
      refine b_callSi (rest := []) C dL_foretells_394 (ctL_low ec171) mf_L_low ms_L_low kl_L_32 rfl ⟨rfl, rfl⟩ ⟨Nat.le_of_ble_eq_true rfl, Nat.le_of_ble_eq_true rfl⟩ ⟨Nat.zero_le _, Nat.zero_le _⟩ rfl (Nat.le_of_ble_eq_true rfl) ?_
      refine b_istore (lv' := [(19, .int r172), (0, .ref (ad 0)), (1, .int x163), (3, .int x164), (13, .int x165), (14, .int x166), (15, .int x167), (16, .int x168)]) C dL_foretells_397 (by decide) rfl ?_
      refine b_aload_n C 1 dL_foretells_399 rfl rfl ?_
      refine b_iload C 0 dL_foretells_400 rfl ?_
      refine b_iload C 4 dL_foretells_402 rfl ?_
      obtain ⟨r175, σ174, ec173, h173⟩ := bd2_inv h171; clear h171
      refine b_callWi (rest := []) C (sameX ad ca) X dL_foretells_404 (ctX2_worstStrategy ec173) mf_X2_worstStrategy mi_X2_worstStrategy kl_L_117 0 rfl rfl rfl rfl ⟨rfl, rfl⟩ ⟨Nat.le_of_ble_eq_true rfl, Nat.le_of_ble_eq_true rfl⟩ ⟨Nat.zero_le _, Nat.zero_le _⟩ rfl (Nat.le_of_ble_eq_true rfl) ?_
      refine b_istore (lv' := [(20, .int r175), (19, .int r172), (0, .ref (ad 0)), (1, .int x163), (3, .int x164), (13, .int x165), (14, .int x166), (15, .int x167), (16, .int x168)]) C dL_foretells_407 (by decide) rfl ?_
      refine b_aload_n C 2 dL_foretells_409 rfl rfl ?_
      refine b_iload C 1 dL_foretells_410 rfl ?_
      obtain ⟨r178, σ177, ec176, h176⟩ := bd2_inv h173; clear h173
      refine b_callWi (rest := []) C (sameX ad ca) X dL_foretells_412 (ctX2_strategy ec176) mf_X2_strategy mi_X2_strategy kl_L_58 0 rfl rfl rfl rfl ⟨rfl, rfl⟩ ⟨Nat.le_of_ble_eq_true rfl, Nat.le_of_ble_eq_true rfl⟩ ⟨Nat.zero_le _, Nat.zero_le _⟩ rfl (Nat.le_of_ble_eq_true rfl) ?_
      refine b_if_ne (tgt := 434) C dL_foretells_415 (by decide) (fun c179 => ?_) (fun c179 => ?_)
      · have h180 := ineg h176 c179; clear h176
        refine b_iload C 0 dL_foretells_434 rfl ?_
        refine b_iconst (v := (1 : Int32)) C dL_foretells_436 (by decide) ?_
        refine b_icmp_lt (tgt := 450) C dL_foretells_437 (by decide) (fun c182 => ?_) (fun c182 => ?_)
        · have h183 := ipos h180 c182; clear h180
          exact b_sub [2, 3, 6, 7, 8, 1] rfl (wL_foretells_450 C X hr _ _ _ _ _ _ h183)
        have h184 := ineg h180 c182; clear h180
        refine b_iload C 0 dL_foretells_440 rfl ?_
        refine b_iconst (v := (5 : Int32)) C dL_foretells_442 (by decide) ?_
        refine b_icmp_gt (tgt := 450) C dL_foretells_443 (by decide) (fun c230 => ?_) (fun c230 => ?_)
        · have h231 := ipos h184 c230; clear h184
          exact b_sub [2, 3, 6, 7, 8, 1] rfl (wL_foretells_450 C X hr _ _ _ _ _ _ h231)
        have h232 := ineg h184 c230; clear h184
        refine b_iconst (v := (1 : Int32)) C dL_foretells_446 (by decide) ?_
        refine b_goto (tgt := 451) C dL_foretells_447 (by decide) ?_
        exact b_sub [2, 3, 6, 7, 8, 1] rfl (wL_foretells_451 C X hr _ _ _ _ _ _ _ h232)
      have h181 := ipos h176 c179; clear h176
      refine b_iload C 0 dL_foretells_418 rfl ?_
      refine b_sipush (v := (-1003 : Int32)) C dL_foretells_420 (by decide) ?_
      refine b_icmp_ne (tgt := 430) C dL_foretells_423 (by decide) (fun c233 => ?_) (fun c233 => ?_)
      · have h234 := ineg h181 c233; clear h181
        refine b_iconst (v := (0 : Int32)) C dL_foretells_430 (by decide) ?_
        refine b_goto (tgt := 451) C dL_foretells_431 (by decide) ?_
        exact b_sub [2, 3, 6, 7, 8, 1] rfl (wL_foretells_451 C X hr _ _ _ _ _ _ _ h234)
      have h235 := ipos h181 c233; clear h181
      refine b_iconst (v := (1 : Int32)) C dL_foretells_426 (by decide) ?_
      refine b_goto (tgt := 451) C dL_foretells_427 (by decide) ?_
      exact b_sub [2, 3, 6, 7, 8, 1] rfl (wL_foretells_451 C X hr _ _ _ _ _ _ _ h235)
    have h90 := ineg h85 c88; clear h85
    refine b_iload C 0 dL_foretells_267 rfl ?_
    refine b_sipush (v := (-1004 : Int32)) C dL_foretells_269 (by decide) ?_
    refine b_icmp_ne (tgt := 279) C dL_foretells_272 (by decide) (fun c236 => ?_) (fun c236 => ?_)
    · have h237 := ineg h90 c236; clear h90
      refine b_iconst (v := (0 : Int32)) C dL_foretells_279 (by decide) ?_
      obtain ⟨rfl, rfl⟩ := so2 h237
      exact b_zret C dL_foretells_280 hr rfl
    have h238 := ipos h90 c236; clear h90
    refine b_iconst (v := (1 : Int32)) C dL_foretells_275 (by decide) ?_
    refine b_goto (tgt := 280) C dL_foretells_276 (by decide) ?_
    obtain ⟨rfl, rfl⟩ := so2 h238
    exact b_zret C dL_foretells_280 hr rfl
  have h80 := ineg h75 c78; clear h75
  refine b_iconst (v := (0 : Int32)) C dL_foretells_236 (by decide) ?_
  obtain ⟨rfl, rfl⟩ := so2 h80
  exact b_zret C dL_foretells_237 hr rfl
theorem wL_foretells_185 {l : Launch} {p : Program} {e : Env} {s : State} {m : MethodId} {args : Array Value} {below : List Frame} {meth : Method} {c : Code} {D : va_G} {A : Nat → Prop} {ad : Nat → Nat} {ca : Nat → ClassId} {rf : Int32} {σf : St} (C : Cb p s m args meth c RL cL_foretells 22) (X : Cx s D A (wX ad ca) (tyX ca)) (hr : meth.sig.returnType = (some .boolean)) {N : Nat} : ∀ (σ : St) (y0 : Int32) (y1 : Int32) (y2 : Int32) (y3 : Int32), fL_foretells_185 N σ y0 y1 y2 y3 = some (rf, σf) → bW p l e rmL_foretells s m args below meth c 0 0 (MQ below (Qw D (wX ad ca) σf (some (.int rf)) A) args s 0 0 A) 22 (wd D A (wX ad ca) s σ) 185 [(0, .ref (ad 0)), (1, .int y0), (3, .int y1), (4, .int y2), (9, .int y3)] [] := by
  intro σ52 x48 x49 x50 x51 h53
  refine b_iload C 4 dL_foretells_185 rfl ?_
  refine b_if_le (tgt := 195) C dL_foretells_187 (by decide) (fun c54 => ?_) (fun c54 => ?_)
  · have h55 := ipos h53 c54; clear h53
    refine b_iconst (v := (0 : Int32)) C dL_foretells_195 (by decide) ?_
    exact b_sub [0, 1, 2, 3] rfl (wL_foretells_196 C X hr _ _ _ _ _ h55)
  have h56 := ineg h53 c54; clear h53
  refine b_iload C 4 dL_foretells_190 rfl ?_
  refine b_goto (tgt := 196) C dL_foretells_192 (by decide) ?_
  exact b_sub [0, 1, 2, 3] rfl (wL_foretells_196 C X hr _ _ _ _ _ h56)
theorem wL_foretells_160 {l : Launch} {p : Program} {e : Env} {s : State} {m : MethodId} {args : Array Value} {below : List Frame} {meth : Method} {c : Code} {D : va_G} {A : Nat → Prop} {ad : Nat → Nat} {ca : Nat → ClassId} {rf : Int32} {σf : St} (C : Cb p s m args meth c RL cL_foretells 22) (X : Cx s D A (wX ad ca) (tyX ca)) (hr : meth.sig.returnType = (some .boolean)) {N : Nat} : ∀ (σ : St) (y0 : Int32) (y1 : Int32) (y2 : Int32) (y3 : Int32), fL_foretells_160 N σ y0 y1 y2 y3 = some (rf, σf) → bW p l e rmL_foretells s m args below meth c 0 0 (MQ below (Qw D (wX ad ca) σf (some (.int rf)) A) args s 0 0 A) 22 (wd D A (wX ad ca) s σ) 160 [(0, .ref (ad 0)), (1, .int y0), (3, .int y1), (4, .int y2), (9, .int y3)] [] := by
  intro σ43 x39 x40 x41 x42 h44
  refine b_iload C 4 dL_foretells_160 rfl ?_
  refine b_if_ge (tgt := 185) C dL_foretells_162 (by decide) (fun c45 => ?_) (fun c45 => ?_)
  · have h46 := ipos h44 c45; clear h44
    exact b_sub [0, 1, 2, 3, 4] rfl (wL_foretells_185 C X hr _ _ _ _ _ h46)
  have h47 := ineg h44 c45; clear h44
  refine b_iload C 4 dL_foretells_165 rfl ?_
  refine b_sipush (v := (-1005 : Int32)) C dL_foretells_167 (by decide) ?_
  refine b_icmp_ne (tgt := 183) C dL_foretells_170 (by decide) (fun c239 => ?_) (fun c239 => ?_)
  · have h240 := ineg h47 c239; clear h47
    refine b_iconst (v := (0 : Int32)) C dL_foretells_183 (by decide) ?_
    obtain ⟨rfl, rfl⟩ := so2 h240
    exact b_zret C dL_foretells_184 hr rfl
  have h241 := ipos h47 c239; clear h47
  refine b_aload_n C 0 dL_foretells_173 rfl rfl ?_
  refine b_iconst (v := (3 : Int32)) C dL_foretells_174 (by decide) ?_
  obtain ⟨r244, σ243, ec242, h242⟩ := bd2_inv h241; clear h241
  refine b_callWi (rest := []) C (sameX ad ca) X dL_foretells_175 (ctX2_count ec242) mf_X2_count mi_X2_count kl_L_40 0 rfl rfl rfl rfl ⟨rfl, rfl⟩ ⟨Nat.le_of_ble_eq_true rfl, Nat.le_of_ble_eq_true rfl⟩ ⟨Nat.zero_le _, Nat.zero_le _⟩ rfl (Nat.le_of_ble_eq_true rfl) ?_
  refine b_iload C 3 dL_foretells_178 rfl ?_
  refine b_icmp_eq (tgt := 185) C dL_foretells_180 (by decide) (fun c245 => ?_) (fun c245 => ?_)
  · have h246 := ipos h242 c245; clear h242
    exact b_sub [0, 1, 2, 3, 4] rfl (wL_foretells_185 C X hr _ _ _ _ _ h246)
  have h247 := ineg h242 c245; clear h242
  refine b_iconst (v := (0 : Int32)) C dL_foretells_183 (by decide) ?_
  obtain ⟨rfl, rfl⟩ := so2 h247
  exact b_zret C dL_foretells_184 hr rfl
theorem ctL_foretells {l : Launch} {ad : Nat → Nat} {ca : Nat → ClassId} {N : Nat} {σ : St} {a1 : Int32} {a2 : Int32} {a3 : Int32} {rf : Int32} {σf : St} (h : fL_foretells N σ a1 a2 a3 = some (rf, σf)) : Cw l yL_foretells cL_foretells 22 (some .boolean) rmL_foretells [.ref (ad 0), .int a1, .int a2, .int a3] (wX ad ca) (tyX ca) σ (some (.int rf)) σf := by
  refine Cw_of (by decide) (sameX ad ca) (Nat.le_of_ble_eq_true rfl) ?_
  intro p e s m args below meth c D A C X hr
  replace C : Cb p s m args meth c RL cL_foretells 22 := C
  have h4 := h; clear h
  refine b_sub (lv' := [(0, .ref (ad 0)), (1, .int a1), (2, .int a2), (3, .int a3)]) [0, 1, 2, 3] rfl ?_
  refine b_aload_n C 0 dL_foretells_0 rfl rfl ?_
  refine b_iconst (v := (3 : Int32)) C dL_foretells_1 (by decide) ?_
  obtain ⟨r7, σ6, ec5, h5⟩ := bd2_inv h4; clear h4
  refine b_callWi (rest := []) C (sameX ad ca) X dL_foretells_2 (ctX2_count ec5) mf_X2_count mi_X2_count kl_L_40 0 rfl rfl rfl rfl ⟨rfl, rfl⟩ ⟨Nat.le_of_ble_eq_true rfl, Nat.le_of_ble_eq_true rfl⟩ ⟨Nat.zero_le _, Nat.zero_le _⟩ rfl (Nat.le_of_ble_eq_true rfl) ?_
  refine b_istore (lv' := [(4, .int r7), (0, .ref (ad 0)), (1, .int a1), (2, .int a2), (3, .int a3)]) C dL_foretells_5 (by decide) rfl ?_
  refine b_iload_n C 3 dL_foretells_7 rfl rfl ?_
  refine b_bipush (v := (50 : Int32)) C dL_foretells_8 (by decide) ?_
  obtain ⟨r9, ec8, h8⟩ := bd0_inv h5; clear h5
  refine b_callSi (rest := []) C dL_foretells_10 (ctL_low ec8) mf_L_low ms_L_low kl_L_32 rfl ⟨rfl, rfl⟩ ⟨Nat.le_of_ble_eq_true rfl, Nat.le_of_ble_eq_true rfl⟩ ⟨Nat.zero_le _, Nat.zero_le _⟩ rfl (Nat.le_of_ble_eq_true rfl) ?_
  refine b_istore (lv' := [(5, .int r9), (4, .int r7), (0, .ref (ad 0)), (1, .int a1), (2, .int a2), (3, .int a3)]) C dL_foretells_13 (by decide) rfl ?_
  refine b_iconst (v := (1 : Int32)) C dL_foretells_15 (by decide) ?_
  refine b_iload_n C 4 dL_foretells_16 rfl rfl ?_
  refine b_bipush (v := (6 : Int32)) C dL_foretells_17 (by decide) ?_
  refine b_ishr C dL_foretells_19 ?_
  refine b_bipush (v := (9 : Int32)) C dL_foretells_20 (by decide) ?_
  obtain ⟨r11, ec10, h10⟩ := bd0_inv h8; clear h8
  refine b_callSi (rest := [.int (1 : Int32)]) C dL_foretells_22 (ctL_low ec10) mf_L_low ms_L_low kl_L_32 rfl ⟨rfl, rfl⟩ ⟨Nat.le_of_ble_eq_true rfl, Nat.le_of_ble_eq_true rfl⟩ ⟨Nat.zero_le _, Nat.zero_le _⟩ rfl (Nat.le_of_ble_eq_true rfl) ?_
  refine b_iadd C dL_foretells_25 ?_
  obtain ⟨x12, ex12, h13⟩ := lt1_inv h10; clear h10
  refine b_nmI ex12 ?_
  refine b_istore (lv' := [(6, .int x12), (5, .int r9), (4, .int r7), (0, .ref (ad 0)), (1, .int a1), (2, .int a2), (3, .int a3)]) C dL_foretells_26 (by decide) rfl ?_
  refine b_iload_n C 6 dL_foretells_28 rfl rfl ?_
  refine b_bipush (v := (12 : Int32)) C dL_foretells_29 (by decide) ?_
  obtain ⟨r15, ec14, h14⟩ := bd0_inv h13; clear h13
  refine b_callSi (rest := []) C dL_foretells_31 (ctL_low ec14) mf_L_low ms_L_low kl_L_32 rfl ⟨rfl, rfl⟩ ⟨Nat.le_of_ble_eq_true rfl, Nat.le_of_ble_eq_true rfl⟩ ⟨Nat.zero_le _, Nat.zero_le _⟩ rfl (Nat.le_of_ble_eq_true rfl) ?_
  refine b_istore (lv' := [(7, .int r15), (6, .int x12), (5, .int r9), (4, .int r7), (0, .ref (ad 0)), (1, .int a1), (2, .int a2), (3, .int a3)]) C dL_foretells_34 (by decide) rfl ?_
  refine b_aload_n C 4 dL_foretells_36 rfl rfl ?_
  refine b_iload C 2 dL_foretells_37 rfl ?_
  refine b_iload C 1 dL_foretells_39 rfl ?_
  refine b_iload C 0 dL_foretells_41 rfl ?_
  obtain ⟨r18, σ17, ec16, h16⟩ := bd2_inv h14; clear h14
  refine b_callWi (rest := []) C (sameX ad ca) X dL_foretells_43 (ctX2_roundsTo ec16) mf_X2_roundsTo mi_X2_roundsTo kl_L_104 0 rfl rfl rfl rfl ⟨rfl, rfl⟩ ⟨Nat.le_of_ble_eq_true rfl, Nat.le_of_ble_eq_true rfl⟩ ⟨Nat.zero_le _, Nat.zero_le _⟩ rfl (Nat.le_of_ble_eq_true rfl) ?_
  refine b_istore (lv' := [(8, .int r18), (7, .int r15), (6, .int x12), (5, .int r9), (4, .int r7), (0, .ref (ad 0)), (1, .int a1), (2, .int a2), (3, .int a3)]) C dL_foretells_46 (by decide) rfl ?_
  refine b_aload_n C 5 dL_foretells_48 rfl rfl ?_
  refine b_iconst (v := (3 : Int32)) C dL_foretells_49 (by decide) ?_
  obtain ⟨r21, σ20, ec19, h19⟩ := bd2_inv h16; clear h16
  refine b_callWi (rest := []) C (sameX ad ca) X dL_foretells_50 (ctX2_count ec19) mf_X2_count mi_X2_count kl_L_40 0 rfl rfl rfl rfl ⟨rfl, rfl⟩ ⟨Nat.le_of_ble_eq_true rfl, Nat.le_of_ble_eq_true rfl⟩ ⟨Nat.zero_le _, Nat.zero_le _⟩ rfl (Nat.le_of_ble_eq_true rfl) ?_
  refine b_iload C 4 dL_foretells_53 rfl ?_
  refine b_icmp_eq (tgt := 60) C dL_foretells_55 (by decide) (fun c22 => ?_) (fun c22 => ?_)
  · have h23 := ipos h19 c22; clear h19
    refine b_aload_n C 5 dL_foretells_60 rfl rfl ?_
    refine b_iload C 3 dL_foretells_61 rfl ?_
    refine b_iload C 2 dL_foretells_63 rfl ?_
    refine b_iload C 1 dL_foretells_65 rfl ?_
    obtain ⟨r27, σ26, ec25, h25⟩ := bd2_inv h23; clear h23
    refine b_callWi (rest := []) C (sameX ad ca) X dL_foretells_67 (ctX2_runTo ec25) mf_X2_runTo mi_X2_runTo kl_L_108 0 rfl rfl rfl rfl ⟨rfl, rfl⟩ ⟨Nat.le_of_ble_eq_true rfl, Nat.le_of_ble_eq_true rfl⟩ ⟨Nat.zero_le _, Nat.zero_le _⟩ rfl (Nat.le_of_ble_eq_true rfl) ?_
    refine b_istore (lv' := [(9, .int r27), (8, .int r18), (7, .int r15), (6, .int x12), (5, .int r9), (4, .int r7), (0, .ref (ad 0)), (1, .int a1), (2, .int a2), (3, .int a3)]) C dL_foretells_70 (by decide) rfl ?_
    refine b_aload_n C 6 dL_foretells_72 rfl rfl ?_
    refine b_iconst (v := (2 : Int32)) C dL_foretells_73 (by decide) ?_
    obtain ⟨r30, σ29, ec28, h28⟩ := bd2_inv h25; clear h25
    refine b_callWi (rest := []) C (sameX ad ca) X dL_foretells_74 (ctX2_count ec28) mf_X2_count mi_X2_count kl_L_40 0 rfl rfl rfl rfl ⟨rfl, rfl⟩ ⟨Nat.le_of_ble_eq_true rfl, Nat.le_of_ble_eq_true rfl⟩ ⟨Nat.zero_le _, Nat.zero_le _⟩ rfl (Nat.le_of_ble_eq_true rfl) ?_
    refine b_i2l C dL_foretells_77 ?_
    obtain ⟨x31, ex31, h32⟩ := lt1_inv h28; clear h28
    refine b_nmJ ex31 ?_
    refine b_lstore (lv' := [(10, .long x31), (9, .int r27), (8, .int r18), (7, .int r15), (6, .int x12), (5, .int r9), (4, .int r7), (0, .ref (ad 0)), (1, .int a1), (2, .int a2), (3, .int a3)]) C dL_foretells_78 (by decide) rfl ?_
    refine b_iload C 1 dL_foretells_80 rfl ?_
    refine b_iload C 2 dL_foretells_82 rfl ?_
    refine b_icmp_ne (tgt := 183) C dL_foretells_84 (by decide) (fun c33 => ?_) (fun c33 => ?_)
    · have h34 := ineg h32 c33; clear h32
      refine b_iconst (v := (0 : Int32)) C dL_foretells_183 (by decide) ?_
      obtain ⟨rfl, rfl⟩ := so2 h34
      exact b_zret C dL_foretells_184 hr rfl
    have h35 := ipos h32 c33; clear h32
    refine b_iload C 1 dL_foretells_87 rfl ?_
    refine b_if_lt (tgt := 160) C dL_foretells_89 (by decide) (fun c36 => ?_) (fun c36 => ?_)
    · have h37 := ipos h35 c36; clear h35
      exact b_sub [7, 8, 10, 6, 1] rfl (wL_foretells_160 C X hr _ _ _ _ _ h37)
    have h38 := ineg h35 c36; clear h35
    refine b_aload_n C 7 dL_foretells_92 rfl rfl ?_
    refine b_iconst (v := (3 : Int32)) C dL_foretells_93 (by decide) ?_
    obtain ⟨r250, σ249, ec248, h248⟩ := bd2_inv h38; clear h38
    refine b_callWi (rest := []) C (sameX ad ca) X dL_foretells_94 (ctX2_count ec248) mf_X2_count mi_X2_count kl_L_40 0 rfl rfl rfl rfl ⟨rfl, rfl⟩ ⟨Nat.le_of_ble_eq_true rfl, Nat.le_of_ble_eq_true rfl⟩ ⟨Nat.zero_le _, Nat.zero_le _⟩ rfl (Nat.le_of_ble_eq_true rfl) ?_
    refine b_iload C 6 dL_foretells_97 rfl ?_
    refine b_iload C 1 dL_foretells_99 rfl ?_
    refine b_iadd C dL_foretells_101 ?_
    refine b_icmp_ne (tgt := 183) C dL_foretells_102 (by decide) (fun c251 => ?_) (fun c251 => ?_)
    · have h252 := ineg h248 c251; clear h248
      refine b_iconst (v := (0 : Int32)) C dL_foretells_183 (by decide) ?_
      obtain ⟨rfl, rfl⟩ := so2 h252
      exact b_zret C dL_foretells_184 hr rfl
    have h253 := ipos h248 c251; clear h248
    refine b_aload_n C 7 dL_foretells_105 rfl rfl ?_
    refine b_iload_n C 8 dL_foretells_106 rfl rfl ?_
    refine b_iload C 6 dL_foretells_107 rfl ?_
    refine b_iload C 1 dL_foretells_109 rfl ?_
    refine b_iadd C dL_foretells_111 ?_
    obtain ⟨r256, σ255, ec254, h254⟩ := bd2_inv h253; clear h253
    refine b_callSWl (rest := []) C (sameX ad ca) X dL_foretells_112 (ctL_width ec254) mf_L_width ms_L_width kl_L_91 rfl ⟨rfl, rfl⟩ ⟨Nat.le_of_ble_eq_true rfl, Nat.le_of_ble_eq_true rfl⟩ ⟨Nat.zero_le _, Nat.zero_le _⟩ rfl (Nat.le_of_ble_eq_true rfl) ?_
    refine b_iload C 4 dL_foretells_115 rfl ?_
    refine b_i2l C dL_foretells_117 ?_
    refine b_lmul C dL_foretells_118 ?_
    refine b_iload C 5 dL_foretells_119 rfl ?_
    refine b_i2l C dL_foretells_121 ?_
    refine b_lload C 0 dL_foretells_122 rfl ?_
    refine b_lmul C dL_foretells_124 ?_
    refine b_lc_gt (tgt := 183) C dL_foretells_125 dL_foretells_126 (by decide) (fun c257 => ?_) (fun c257 => ?_)
    · have h258 := ipos h254 c257; clear h254
      refine b_iconst (v := (0 : Int32)) C dL_foretells_183 (by decide) ?_
      obtain ⟨rfl, rfl⟩ := so2 h258
      exact b_zret C dL_foretells_184 hr rfl
    have h259 := ineg h254 c257; clear h254
    refine b_iload C 1 dL_foretells_129 rfl ?_
    refine b_if_le (tgt := 160) C dL_foretells_131 (by decide) (fun c260 => ?_) (fun c260 => ?_)
    · have h261 := ipos h259 c260; clear h259
      exact b_sub [7, 8, 10, 6, 1] rfl (wL_foretells_160 C X hr _ _ _ _ _ h261)
    have h262 := ineg h259 c260; clear h259
    refine b_aload_n C 7 dL_foretells_134 rfl rfl ?_
    refine b_iload_n C 8 dL_foretells_135 rfl rfl ?_
    refine b_iload C 6 dL_foretells_136 rfl ?_
    refine b_iload C 1 dL_foretells_138 rfl ?_
    refine b_iadd C dL_foretells_140 ?_
    refine b_iconst (v := (1 : Int32)) C dL_foretells_141 (by decide) ?_
    refine b_isub C dL_foretells_142 ?_
    obtain ⟨r265, σ264, ec263, h263⟩ := bd2_inv h262; clear h262
    refine b_callSWl (rest := []) C (sameX ad ca) X dL_foretells_143 (ctL_width ec263) mf_L_width ms_L_width kl_L_91 rfl ⟨rfl, rfl⟩ ⟨Nat.le_of_ble_eq_true rfl, Nat.le_of_ble_eq_true rfl⟩ ⟨Nat.zero_le _, Nat.zero_le _⟩ rfl (Nat.le_of_ble_eq_true rfl) ?_
    refine b_iload C 4 dL_foretells_146 rfl ?_
    refine b_i2l C dL_foretells_148 ?_
    refine b_lmul C dL_foretells_149 ?_
    refine b_iload C 5 dL_foretells_150 rfl ?_
    refine b_i2l C dL_foretells_152 ?_
    refine b_lload C 0 dL_foretells_153 rfl ?_
    refine b_lmul C dL_foretells_155 ?_
    refine b_lc_le (tgt := 183) C dL_foretells_156 dL_foretells_157 (by decide) (fun c266 => ?_) (fun c266 => ?_)
    · have h267 := ipos h263 c266; clear h263
      refine b_iconst (v := (0 : Int32)) C dL_foretells_183 (by decide) ?_
      obtain ⟨rfl, rfl⟩ := so2 h267
      exact b_zret C dL_foretells_184 hr rfl
    have h268 := ineg h263 c266; clear h263
    exact b_sub [7, 8, 10, 6, 1] rfl (wL_foretells_160 C X hr _ _ _ _ _ h268)
  have h24 := ineg h19 c22; clear h19
  refine b_iconst (v := (0 : Int32)) C dL_foretells_58 (by decide) ?_
  obtain ⟨rfl, rfl⟩ := so2 h24
  exact b_zret C dL_foretells_59 hr rfl
