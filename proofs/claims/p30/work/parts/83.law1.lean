def fL_law_708 (N L : Nat) (xs : Nat → Int32) (q182 : St → Int32 → Int32 → Int32 → Int32 → Option Int32) (σ128 : St) (x124 : Int32) (x125 : Int32) (x126 : Int32) (x127 : Int32) : Option Int32 :=
  bd2 (fX2_mostFrequent N σ128 (1 : Int32)) fun r132 σ131 =>
  bd2 (fX2_mostFrequent N σ131 (0 : Int32)) fun r135 σ134 =>
  bd2 (fX2_count N σ134 (4 : Int32)) fun r138 σ137 =>
  if r138 = x124 then (
  if r132 = (-1005 : Int32) then (
  lt1 (x127 + (1 : Int32)) fun x171 =>
  q182 σ137 x124 x125 x126 x171)
  else (
  some (0 : Int32)))
  else (
  if r132 < (1 : Int32) then (
  some (0 : Int32))
  else (
  bd2 (fX2_count N σ137 (4 : Int32)) fun r147 σ146 =>
  if (x124 - r147) < r132 then (
  some (0 : Int32))
  else (
  bd2 (fX2_strategy σ146 r135) fun r153 σ152 =>
  if r153 = (0 : Int32) then (
  bd2 (fX2_count N σ152 (7 : Int32)) fun r159 σ158 =>
  bd2 (fX2_count N σ158 (4 : Int32)) fun r162 σ161 =>
  if r159 ≤ (((x124 - r162) - r132) + (1 : Int32)) then (
  lt1 (x127 + (1 : Int32)) fun x166 =>
  q182 σ161 x124 x125 x126 x166)
  else (
  some (0 : Int32)))
  else (
  some (0 : Int32)))))
def fL_law_577 (N L : Nat) (xs : Nat → Int32) (q182 : St → Int32 → Int32 → Int32 → Int32 → Option Int32) (σ261 : St) (x255 : Int32) (x256 : Int32) (x257 : Int32) (x258 : Int32) (x259 : Int32) (x260 : Int32) : Option Int32 :=
  if x260 = (0 : Int32) then (
  some (0 : Int32))
  else (
  bd0 (fL_low (x259 >>> ((8 : Int32) &&& 31)) (4 : Int32)) fun r267 =>
  bd2 (fX2_setRule σ261 r267) fun r270 σ269 =>
  if r270 < (0 : Int32) then (
  some (0 : Int32))
  else (
  bd2 (fX2_setRule σ269 (4 : Int32)) fun r276 σ275 =>
  if r276 = (-1002 : Int32) then (
  bd2 (fX2_setLink σ275 (0 : Int32) (1 : Int32) (4 : Int32)) fun r282 σ281 =>
  if r282 = (-1002 : Int32) then (
  fL_law_708 N L xs q182 σ281 x255 x256 x257 x258)
  else (
  some (0 : Int32)))
  else (
  some (0 : Int32))))
def fL_law_568 (N L : Nat) (xs : Nat → Int32) (q182 : St → Int32 → Int32 → Int32 → Int32 → Option Int32) (σ250 : St) (x242 : Int32) (x243 : Int32) (x244 : Int32) (x245 : Int32) (x246 : Int32) (x247 : Int32) (x248 : Int32) (x249 : Int32) : Option Int32 :=
  if x249 = (x248 + x247) then (
  fL_law_577 N L xs q182 σ250 x242 x243 x244 x245 x246 (1 : Int32))
  else (
  fL_law_577 N L xs q182 σ250 x242 x243 x244 x245 x246 (0 : Int32))
def fL_law_557 (N L : Nat) (xs : Nat → Int32) (q182 : St → Int32 → Int32 → Int32 → Int32 → Option Int32) (σ237 : St) (x228 : Int32) (x229 : Int32) (x230 : Int32) (x231 : Int32) (x232 : Int32) (x233 : Int32) (x234 : Int32) (x235 : Int32) (x236 : Int32) : Option Int32 :=
  if (0 : Int32) ≤ x233 then (
  fL_law_568 N L xs q182 σ237 x228 x229 x230 x231 x232 (1 : Int32) (x235 - x234) x236)
  else (
  fL_law_568 N L xs q182 σ237 x228 x229 x230 x231 x232 (0 : Int32) (x235 - x234) x236)
def fL_law_535 (N L : Nat) (xs : Nat → Int32) (q182 : St → Int32 → Int32 → Int32 → Int32 → Option Int32) (σ294 : St) (x289 : Int32) (x290 : Int32) (x291 : Int32) (x292 : Int32) (x293 : Int32) : Option Int32 :=
  fL_law_577 N L xs q182 σ294 x289 x290 x291 x292 x293 (0 : Int32)
def fL_law_491 (N L : Nat) (xs : Nat → Int32) (q182 : St → Int32 → Int32 → Int32 → Int32 → Option Int32) (σ214 : St) (x205 : Int32) (x206 : Int32) (x207 : Int32) (x208 : Int32) (x209 : Int32) (x210 : Int32) (x211 : Int32) (x212 : Int32) (x213 : Int32) : Option Int32 :=
  bd2 (fX2_setLink σ214 x210 x211 x213) fun r218 σ217 =>
  if x210 = x211 then (
  if r218 = (-1001 : Int32) then (
  bd2 (fX2_count N σ217 (6 : Int32)) fun r298 σ297 =>
  if r298 = x212 then (
  fL_law_577 N L xs q182 σ297 x205 x206 x207 x208 x209 (1 : Int32))
  else (
  fL_law_535 N L xs q182 σ297 x205 x206 x207 x208 x209))
  else (
  fL_law_535 N L xs q182 σ217 x205 x206 x207 x208 x209))
  else (
  bd2 (fX2_count N σ217 (6 : Int32)) fun r224 σ223 =>
  if (0 : Int32) ≤ r218 then (
  fL_law_557 N L xs q182 σ223 x205 x206 x207 x208 x209 x213 (1 : Int32) x212 r224)
  else (
  fL_law_557 N L xs q182 σ223 x205 x206 x207 x208 x209 x213 (0 : Int32) x212 r224))
def fL_law_404 (N L : Nat) (xs : Nat → Int32) (q182 : St → Int32 → Int32 → Int32 → Int32 → Option Int32) (σ377 : St) (x370 : Int32) (x371 : Int32) (x372 : Int32) (x373 : Int32) (x374 : Int32) (x375 : Int32) (x376 : Int32) : Option Int32 :=
  if x376 = x375 then (
  bd2 (fX2_setFaulty σ377 x374 (6 : Int32) (0 : Int32) (1 : Int32)) fun r384 σ383 =>
  if r384 = (-1002 : Int32) then (
  bd2 (fX2_setFaulty σ383 x370 (1 : Int32) (0 : Int32) (1 : Int32)) fun r390 σ389 =>
  if r390 = (-1001 : Int32) then (
  fL_law_708 N L xs q182 σ389 x370 x371 x372 x373)
  else (
  some (0 : Int32)))
  else (
  some (0 : Int32)))
  else (
  some (0 : Int32))
def fL_law_387 (N L : Nat) (xs : Nat → Int32) (q182 : St → Int32 → Int32 → Int32 → Int32 → Option Int32) (σ365 : St) (x357 : Int32) (x358 : Int32) (x359 : Int32) (x360 : Int32) (x361 : Int32) (x362 : Int32) (x363 : Int32) (x364 : Int32) : Option Int32 :=
  if x362 ≤ (0 : Int32) then (
  fL_law_404 N L xs q182 σ365 x357 x358 x359 x360 x361 x363 x364)
  else (
  fL_law_404 N L xs q182 σ365 x357 x358 x359 x360 x361 (-1003 : Int32) x364)
def fL_law_384 (N L : Nat) (xs : Nat → Int32) (q182 : St → Int32 → Int32 → Int32 → Int32 → Option Int32) (σ352 : St) (x341 : Int32) (x342 : Int32) (x343 : Int32) (x344 : Int32) (x345 : Int32) (x346 : Int32) (x347 : Int32) (x348 : Int32) (x349 : Int32) (x350 : Int32) (x351 : Int32) : Option Int32 :=
  bd2 (fX2_setFaulty σ352 x351 x350 x349 x348) fun r356 σ355 =>
  fL_law_387 N L xs q182 σ355 x341 x342 x343 x344 x345 x346 x347 r356
def fL_law_323 (N L : Nat) (xs : Nat → Int32) (q182 : St → Int32 → Int32 → Int32 → Int32 → Option Int32) (σ329 : St) (x319 : Int32) (x320 : Int32) (x321 : Int32) (x322 : Int32) (x323 : Int32) (x324 : Int32) (x325 : Int32) (x326 : Int32) (x327 : Int32) (x328 : Int32) : Option Int32 :=
  if ((x323 >>> ((8 : Int32) &&& 31)) &&& (3 : Int32)) = (0 : Int32) then (
  bd2 (fX2_setCorrect σ329 x325) fun r396 σ395 =>
  fL_law_387 N L xs q182 σ395 x319 x320 x321 x322 x325 x326 x327 r396)
  else (
  bd0 (fL_low (x324 >>> ((4 : Int32) &&& 31)) (5 : Int32)) fun r335 =>
  bd0 (fL_low (x324 >>> ((8 : Int32) &&& 31)) (41 : Int32)) fun r337 =>
  if x328 ≤ (1000 : Int32) then (
  fL_law_384 N L xs q182 σ329 x319 x320 x321 x322 x325 x326 x327 x328 (r337 - (20 : Int32)) ((1 : Int32) + r335) x325)
  else (
  fL_law_384 N L xs q182 σ329 x319 x320 x321 x322 x325 x326 x327 (1 : Int32) (r337 - (20 : Int32)) ((1 : Int32) + r335) x325))
def fL_law_317 (N L : Nat) (xs : Nat → Int32) (q182 : St → Int32 → Int32 → Int32 → Int32 → Option Int32) (σ317 : St) (x308 : Int32) (x309 : Int32) (x310 : Int32) (x311 : Int32) (x312 : Int32) (x313 : Int32) (x314 : Int32) (x315 : Int32) (x316 : Int32) : Option Int32 :=
  fL_law_323 N L xs q182 σ317 x308 x309 x310 x311 x312 x313 x314 x315 x316 (1 : Int32)
def fL_law_279 (N L : Nat) (xs : Nat → Int32) (q182 : St → Int32 → Int32 → Int32 → Int32 → Option Int32) (σ411 : St) (x403 : Int32) (x404 : Int32) (x405 : Int32) (x406 : Int32) (x407 : Int32) (x408 : Int32) (x409 : Int32) (x410 : Int32) : Option Int32 :=
  bd2 (fL_gives N σ411 x410 x409 x408 x407) fun r415 σ414 =>
  if r415 = (0 : Int32) then (
  some (0 : Int32))
  else (
  fL_law_708 N L xs q182 σ414 x403 x404 x405 x406)
def fL_law_233 (N L : Nat) (xs : Nat → Int32) (q182 : St → Int32 → Int32 → Int32 → Int32 → Option Int32) (σ96 : St) (x89 : Int32) (x90 : Int32) (x91 : Int32) (x92 : Int32) (x93 : Int32) (x94 : Int32) (x95 : Int32) : Option Int32 :=
  bd0 (fL_low x93 x89) fun r99 =>
  bd2 (fX2_count N σ96 (3 : Int32)) fun r102 σ101 =>
  if (2 : Int32) ≤ x95 then (
  if x95 = (2 : Int32) then (
  bd2 (fX2_strategy σ101 r99) fun r304 σ303 =>
  if (x94 &&& (1 : Int32)) = (0 : Int32) then (
  fL_law_317 N L xs q182 σ303 x89 x90 x91 x92 x93 x94 r99 r102 r304)
  else (
  if x91 = (720720 : Int32) then (
  fL_law_317 N L xs q182 σ303 x89 x90 x91 x92 x93 x94 r99 r102 r304)
  else (
  fL_law_323 N L xs q182 σ303 x89 x90 x91 x92 x93 x94 r99 r102 r304 x91)))
  else (
  if x95 = (3 : Int32) then (
  bd0 (fL_low (x93 >>> ((4 : Int32) &&& 31)) x89) fun r194 =>
  bd2 (fX2_count N σ101 (6 : Int32)) fun r197 σ196 =>
  bd0 (fL_low x94 (9 : Int32)) fun r199 =>
  if (4 : Int32) ≤ r199 then (
  bd0 (fL_low (x94 >>> ((4 : Int32) &&& 31)) (5 : Int32)) fun r204 =>
  fL_law_491 N L xs q182 σ196 x89 x90 x91 x92 x94 r99 r194 r197 (r204 - (1 : Int32)))
  else (
  fL_law_491 N L xs q182 σ196 x89 x90 x91 x92 x94 r99 r194 r197 (0 : Int32)))
  else (
  if x95 = (4 : Int32) then (
  bd2 (fL_foretells N σ101 x89 x93 x94) fun r189 σ188 =>
  if r189 = (0 : Int32) then (
  some (0 : Int32))
  else (
  fL_law_708 N L xs q182 σ188 x89 x90 x91 x92))
  else (
  if x95 = (5 : Int32) then (
  bd0 (fL_low x94 (r102 + (1 : Int32))) fun r174 =>
  bd2 (fX2_back σ101 r174) fun r177 σ176 =>
  if r177 = (r102 - r174) then (
  bd2 (fX2_back σ176 (-1 : Int32)) fun r183 σ182 =>
  if r183 = (-1002 : Int32) then (
  fL_law_708 N L xs q182 σ182 x89 x90 x91 x92)
  else (
  some (0 : Int32)))
  else (
  some (0 : Int32)))
  else (
  bd2 (fL_round N σ101 x89 x90) fun r120 σ119 =>
  if r120 = (0 : Int32) then (
  some (0 : Int32))
  else (
  fL_law_708 N L xs q182 σ119 x89 x90 x91 x92))))))
  else (
  if x89 ≤ x92 then (
  fL_law_279 N L xs q182 σ101 x89 x90 x91 x92 x94 x93 x91 x89)
  else (
  fL_law_279 N L xs q182 σ101 x89 x90 x91 x92 x94 ((x93 &&& (-16 : Int32)) ||| x92) x91 x89))
def fL_law_182b (N L : Nat) (xs : Nat → Int32) (q798 : St → Option Int32) (q182 : St → Int32 → Int32 → Int32 → Int32 → Option Int32) (σ75 : St) (x71 : Int32) (x72 : Int32) (x73 : Int32) (x74 : Int32) : Option Int32 :=
  if (40 : Int32) ≤ x74 then (
  q798 σ75)
  else (
  bd0 (fL_cell L xs ((1 : Int32) + ((2 : Int32) * x74))) fun r80 =>
  bd0 (fL_cell L xs ((2 : Int32) + ((2 : Int32) * x74))) fun r82 =>
  if x71 ≤ x74 then (
  bd0 (fL_low (r80 >>> ((20 : Int32) &&& 31)) (10 : Int32)) fun r88 =>
  fL_law_233 N L xs q182 σ75 x71 x72 x73 x74 r80 r82 r88)
  else (
  fL_law_233 N L xs q182 σ75 x71 x72 x73 x74 r80 r82 (0 : Int32)))
def fL_law_182 (N L : Nat) (xs : Nat → Int32) (q798 : St → Option Int32) : Nat → St → Int32 → Int32 → Int32 → Int32 → Option Int32
  | 0, _, _, _, _, _ => none
  | n + 1, σ, x71, x72, x73, x74 => fL_law_182b N L xs q798 (fL_law_182 N L xs q798 n) σ x71 x72 x73 x74
def fL_law_87 (N L : Nat) (xs : Nat → Int32) (σ27 : St) (x24 : Int32) (x25 : Int32) (x26 : Int32) : Option Int32 :=
  bd2 (fX2_reset N σ27 x24 x25 x26) fun r31 σ30 =>
  if r31 = (4 : Int32) then (
  bd2 (fX2_reset N σ30 (11 : Int32) (0 : Int32) (1 : Int32)) fun r37 σ36 =>
  if r37 = (-1002 : Int32) then (
  bd2 (fX2_reset N σ36 (2 : Int32) (4 : Int32) (1 : Int32)) fun r43 σ42 =>
  if r43 = (-1002 : Int32) then (
  bd2 (fX2_reset N σ42 (2 : Int32) (0 : Int32) (0 : Int32)) fun r49 σ48 =>
  if r49 = (-1002 : Int32) then (
  bd2 (fX2_count N σ48 (0 : Int32)) fun r55 σ54 =>
  if r55 = x24 then (
  bd2 (fX2_count N σ54 (6 : Int32)) fun r61 σ60 =>
  if r61 = ((x24 * x24) - x24) then (
  bd2 (fX2_count N σ60 (8 : Int32)) fun r67 σ66 =>
  if r67 = (-1002 : Int32) then (
  fL_law_182 N L xs (fun σ419 =>
 bd2 (fX2_mostFrequent N σ419 (2 : Int32)) fun r423 σ422 =>
  if r423 = (-1002 : Int32) then (
  bd2 (fX2_strategy σ422 (-1 : Int32)) fun r429 σ428 =>
  if r429 = (-1001 : Int32) then (
  bd2 (fX2_run N σ428 (0 : Int32)) fun r435 σ434 =>
  if r435 = (-1002 : Int32) then (
  bd2 (fX2_run N σ434 (61 : Int32)) fun r441 σ440 =>
  if r441 = (-1002 : Int32) then (
  some (1 : Int32))
  else (
  some (0 : Int32)))
  else (
  some (0 : Int32)))
  else (
  some (0 : Int32)))
  else (
  some (0 : Int32))) N σ66 x24 x25 x26 (0 : Int32))
  else (
  some (0 : Int32)))
  else (
  some (0 : Int32)))
  else (
  some (0 : Int32)))
  else (
  some (0 : Int32)))
  else (
  some (0 : Int32)))
  else (
  some (0 : Int32)))
  else (
  some (0 : Int32))
def fL_law (N L : Nat) (xs : Nat → Int32) (σ : St) : Option Int32 :=
  bd0 (fL_cell L xs (0 : Int32)) fun r2 =>
  bd0 (fL_low r2 (9 : Int32)) fun r5 =>
  lt1 ((2 : Int32) + r5) fun x6 =>
  bd0 (fL_low (r2 >>> ((5 : Int32) &&& 31)) (4 : Int32)) fun r9 =>
  bd0 (fL_low (r2 >>> ((9 : Int32) &&& 31)) (5 : Int32)) fun r11 =>
  if r11 = (0 : Int32) then (
  fL_law_87 N L xs σ x6 r9 (1 : Int32))
  else (
  if r11 = (1 : Int32) then (
  fL_law_87 N L xs σ x6 r9 (6 : Int32))
  else (
  if r11 = (2 : Int32) then (
  fL_law_87 N L xs σ x6 r9 (60 : Int32))
  else (
  if r11 = (3 : Int32) then (
  fL_law_87 N L xs σ x6 r9 (420 : Int32))
  else (
  fL_law_87 N L xs σ x6 r9 (720720 : Int32)))))
theorem wL_law_708 {l : Launch} {p : Program} {e : Env} {s : State} {m : MethodId} {below : List Frame} {meth : Method} {c : Code} {D : va_G} {ad : Nat → Nat} {ca : Nat → ClassId} {b L N : Nat} {xs : Nat → Int32} {rf : Int32} (hNN : N ≤ 5000) (C : Cb p s m #[.ref b] meth c RL cL_law 18) (X : Cx s D (fun q : Nat => s.heap.size ≤ q) (wX ad ca) (tyX ca)) (S : Sc s (fun q : Nat => s.heap.size ≤ q) b L xs) (hend : lw_end l p e s m below meth c b) (hrf : rf = 1)  {q182 : St → Int32 → Int32 → Int32 → Int32 → Option Int32} {ce sl : Nat} (hce : ce + 1 ≤ 600000) (hsl : sl + 20 ≤ 7302250) (hq182 : ∀ (σ : St) (y0 : Int32) (y1 : Int32) (y2 : Int32) (y3 : Int32), q182 σ y0 y1 y2 y3 = some rf → bW p l e room_1 s m #[.ref b] below meth c (ce + 1) (sl + 20) (lw_Z below #[.ref b] s) 18 (wd D (fun q : Nat => s.heap.size ≤ q) (wX ad ca) s σ) 182 [(0, .ref b), (1, .ref (ad 0)), (3, .int y0), (4, .int y1), (6, .int y2), (7, .int y3)] []) : ∀ (σ : St) (y0 : Int32) (y1 : Int32) (y2 : Int32) (y3 : Int32), fL_law_708 N L xs q182 σ y0 y1 y2 y3 = some rf → bW p l e room_1 s m #[.ref b] below meth c (ce + 1) (sl + 20) (lw_Z below #[.ref b] s) 18 (wd D (fun q : Nat => s.heap.size ≤ q) (wX ad ca) s σ) 708 [(0, .ref b), (1, .ref (ad 0)), (3, .int y0), (4, .int y1), (6, .int y2), (7, .int y3)] [] := by
  intro σ128 x124 x125 x126 x127 h129
  refine b_aload_n C 1 dL_law_708 rfl rfl ?_
  refine b_iconst (v := (1 : Int32)) C dL_law_709 (by decide) ?_
  obtain ⟨r132, σ131, ec130, h130⟩ := bd2_inv h129; clear h129
  refine b_callWi (rest := []) C (sameX ad ca) X dL_law_710 (ctX2_mostFrequent ec130) mf_X2_mostFrequent mi_X2_mostFrequent kl_L_151 0 rfl rfl rfl rfl ⟨rfl, rfl⟩ ⟨Nat.le_of_ble_eq_true rfl, Nat.le_of_ble_eq_true rfl⟩ ⟨(by show _ ≤ 600000; omega), (by show _ ≤ 7302250; omega)⟩ rfl (Nat.le_of_ble_eq_true rfl) ?_
  refine b_istore (lv' := [(13, .int r132), (0, .ref b), (1, .ref (ad 0)), (3, .int x124), (4, .int x125), (6, .int x126), (7, .int x127)]) C dL_law_713 (by decide) rfl ?_
  refine b_aload_n C 2 dL_law_715 rfl rfl ?_
  refine b_iconst (v := (0 : Int32)) C dL_law_716 (by decide) ?_
  obtain ⟨r135, σ134, ec133, h133⟩ := bd2_inv h130; clear h130
  refine b_callWi (rest := []) C (sameX ad ca) X dL_law_717 (ctX2_mostFrequent ec133) mf_X2_mostFrequent mi_X2_mostFrequent kl_L_151 0 rfl rfl rfl rfl ⟨rfl, rfl⟩ ⟨Nat.le_of_ble_eq_true rfl, Nat.le_of_ble_eq_true rfl⟩ ⟨(by show _ ≤ 600000; omega), (by show _ ≤ 7302250; omega)⟩ rfl (Nat.le_of_ble_eq_true rfl) ?_
  refine b_istore (lv' := [(14, .int r135), (13, .int r132), (0, .ref b), (1, .ref (ad 0)), (3, .int x124), (4, .int x125), (6, .int x126), (7, .int x127)]) C dL_law_720 (by decide) rfl ?_
  refine b_aload_n C 3 dL_law_722 rfl rfl ?_
  refine b_iconst (v := (4 : Int32)) C dL_law_723 (by decide) ?_
  obtain ⟨r138, σ137, ec136, h136⟩ := bd2_inv h133; clear h133
  refine b_callWi (rest := []) C (sameX ad ca) X dL_law_724 (ctX2_count ec136) mf_X2_count mi_X2_count kl_L_40 0 rfl rfl rfl rfl ⟨rfl, rfl⟩ ⟨Nat.le_of_ble_eq_true rfl, Nat.le_of_ble_eq_true rfl⟩ ⟨(by show _ ≤ 600000; omega), (by show _ ≤ 7302250; omega)⟩ rfl (Nat.le_of_ble_eq_true rfl) ?_
  refine b_iload_n C 4 dL_law_727 rfl rfl ?_
  refine b_icmp_ne (tgt := 742) C dL_law_728 (by decide) (fun c139 => ?_) (fun c139 => ?_)
  · have h140 := ineg h136 c139; clear h136
    refine b_iload C 1 dL_law_742 rfl ?_
    refine b_iconst (v := (1 : Int32)) C dL_law_744 (by decide) ?_
    refine b_icmp_lt (tgt := 790) C dL_law_745 (by decide) (fun c142 => ?_) (fun c142 => ?_)
    · have h143 := ipos h140 c142; clear h140
      refine b_iconst (v := (0 : Int32)) C dL_law_790 (by decide) ?_
      obtain rfl := so1 h143
      exact b_lend hend (by omega) (by omega) dL_law_791 hrf
    have h144 := ineg h140 c142; clear h140
    refine b_iload C 1 dL_law_748 rfl ?_
    refine b_iload_n C 4 dL_law_750 rfl rfl ?_
    refine b_aload_n C 3 dL_law_751 rfl rfl ?_
    refine b_iconst (v := (4 : Int32)) C dL_law_752 (by decide) ?_
    obtain ⟨r147, σ146, ec145, h145⟩ := bd2_inv h144; clear h144
    refine b_callWi (rest := [.int x124, .int r132]) C (sameX ad ca) X dL_law_753 (ctX2_count ec145) mf_X2_count mi_X2_count kl_L_40 0 rfl rfl rfl rfl ⟨rfl, rfl⟩ ⟨Nat.le_of_ble_eq_true rfl, Nat.le_of_ble_eq_true rfl⟩ ⟨(by show _ ≤ 600000; omega), (by show _ ≤ 7302250; omega)⟩ rfl (Nat.le_of_ble_eq_true rfl) ?_
    refine b_isub C dL_law_756 ?_
    refine b_icmp_gt (tgt := 790) C dL_law_757 (by decide) (fun c148 => ?_) (fun c148 => ?_)
    · have h149 := ipos h145 c148; clear h145
      refine b_iconst (v := (0 : Int32)) C dL_law_790 (by decide) ?_
      obtain rfl := so1 h149
      exact b_lend hend (by omega) (by omega) dL_law_791 hrf
    have h150 := ineg h145 c148; clear h145
    refine b_aload_n C 3 dL_law_760 rfl rfl ?_
    refine b_iload C 0 dL_law_761 rfl ?_
    obtain ⟨r153, σ152, ec151, h151⟩ := bd2_inv h150; clear h150
    refine b_callWi (rest := []) C (sameX ad ca) X dL_law_763 (ctX2_strategy ec151) mf_X2_strategy mi_X2_strategy kl_L_58 0 rfl rfl rfl rfl ⟨rfl, rfl⟩ ⟨Nat.le_of_ble_eq_true rfl, Nat.le_of_ble_eq_true rfl⟩ ⟨(by show _ ≤ 600000; omega), (by show _ ≤ 7302250; omega)⟩ rfl (Nat.le_of_ble_eq_true rfl) ?_
    refine b_if_ne (tgt := 790) C dL_law_766 (by decide) (fun c154 => ?_) (fun c154 => ?_)
    · have h155 := ineg h151 c154; clear h151
      refine b_iconst (v := (0 : Int32)) C dL_law_790 (by decide) ?_
      obtain rfl := so1 h155
      exact b_lend hend (by omega) (by omega) dL_law_791 hrf
    have h156 := ipos h151 c154; clear h151
    refine b_aload_n C 3 dL_law_769 rfl rfl ?_
    refine b_bipush (v := (7 : Int32)) C dL_law_770 (by decide) ?_
    obtain ⟨r159, σ158, ec157, h157⟩ := bd2_inv h156; clear h156
    refine b_callWi (rest := []) C (sameX ad ca) X dL_law_772 (ctX2_count ec157) mf_X2_count mi_X2_count kl_L_40 0 rfl rfl rfl rfl ⟨rfl, rfl⟩ ⟨Nat.le_of_ble_eq_true rfl, Nat.le_of_ble_eq_true rfl⟩ ⟨(by show _ ≤ 600000; omega), (by show _ ≤ 7302250; omega)⟩ rfl (Nat.le_of_ble_eq_true rfl) ?_
    refine b_iload_n C 4 dL_law_775 rfl rfl ?_
    refine b_aload_n C 3 dL_law_776 rfl rfl ?_
    refine b_iconst (v := (4 : Int32)) C dL_law_777 (by decide) ?_
    obtain ⟨r162, σ161, ec160, h160⟩ := bd2_inv h157; clear h157
    refine b_callWi (rest := [.int x124, .int r159]) C (sameX ad ca) X dL_law_778 (ctX2_count ec160) mf_X2_count mi_X2_count kl_L_40 0 rfl rfl rfl rfl ⟨rfl, rfl⟩ ⟨Nat.le_of_ble_eq_true rfl, Nat.le_of_ble_eq_true rfl⟩ ⟨(by show _ ≤ 600000; omega), (by show _ ≤ 7302250; omega)⟩ rfl (Nat.le_of_ble_eq_true rfl) ?_
    refine b_isub C dL_law_781 ?_
    refine b_iload C 1 dL_law_782 rfl ?_
    refine b_isub C dL_law_784 ?_
    refine b_iconst (v := (1 : Int32)) C dL_law_785 (by decide) ?_
    refine b_iadd C dL_law_786 ?_
    refine b_icmp_le (tgt := 792) C dL_law_787 (by decide) (fun c163 => ?_) (fun c163 => ?_)
    · have h164 := ipos h160 c163; clear h160
      obtain ⟨x166, ex166, h167⟩ := lt1_inv h164; clear h164
      refine b_iinc (v := x166) (lv' := [(7, .int x166), (14, .int r135), (13, .int r132), (0, .ref b), (1, .ref (ad 0)), (3, .int x124), (4, .int x125), (6, .int x126)]) C 7 dL_law_792 rfl (by rw [ex166]; rfl) (by decide) rfl ?_
      refine b_goto (tgt := 182) C dL_law_795 (by decide) ?_
      exact b_widen (by omega) (by omega) (b_sub [3, 4, 5, 6, 7, 0] rfl (hq182 _ _ _ _ _ h167))
    have h165 := ineg h160 c163; clear h160
    refine b_iconst (v := (0 : Int32)) C dL_law_790 (by decide) ?_
    obtain rfl := so1 h165
    exact b_lend hend (by omega) (by omega) dL_law_791 hrf
  have h141 := ipos h136 c139; clear h136
  refine b_iload C 1 dL_law_731 rfl ?_
  refine b_sipush (v := (-1005 : Int32)) C dL_law_733 (by decide) ?_
  refine b_icmp_eq (tgt := 792) C dL_law_736 (by decide) (fun c168 => ?_) (fun c168 => ?_)
  · have h169 := ipos h141 c168; clear h141
    obtain ⟨x171, ex171, h172⟩ := lt1_inv h169; clear h169
    refine b_iinc (v := x171) (lv' := [(7, .int x171), (14, .int r135), (13, .int r132), (0, .ref b), (1, .ref (ad 0)), (3, .int x124), (4, .int x125), (6, .int x126)]) C 7 dL_law_792 rfl (by rw [ex171]; rfl) (by decide) rfl ?_
    refine b_goto (tgt := 182) C dL_law_795 (by decide) ?_
    exact b_widen (by omega) (by omega) (b_sub [3, 4, 5, 6, 7, 0] rfl (hq182 _ _ _ _ _ h172))
  have h170 := ineg h141 c168; clear h141
  refine b_goto (tgt := 790) C dL_law_739 (by decide) ?_
  refine b_iconst (v := (0 : Int32)) C dL_law_790 (by decide) ?_
  obtain rfl := so1 h170
  exact b_lend hend (by omega) (by omega) dL_law_791 hrf
theorem wL_law_577 {l : Launch} {p : Program} {e : Env} {s : State} {m : MethodId} {below : List Frame} {meth : Method} {c : Code} {D : va_G} {ad : Nat → Nat} {ca : Nat → ClassId} {b L N : Nat} {xs : Nat → Int32} {rf : Int32} (hNN : N ≤ 5000) (C : Cb p s m #[.ref b] meth c RL cL_law 18) (X : Cx s D (fun q : Nat => s.heap.size ≤ q) (wX ad ca) (tyX ca)) (S : Sc s (fun q : Nat => s.heap.size ≤ q) b L xs) (hend : lw_end l p e s m below meth c b) (hrf : rf = 1)  {q182 : St → Int32 → Int32 → Int32 → Int32 → Option Int32} {ce sl : Nat} (hce : ce + 1 ≤ 600000) (hsl : sl + 20 ≤ 7302250) (hq182 : ∀ (σ : St) (y0 : Int32) (y1 : Int32) (y2 : Int32) (y3 : Int32), q182 σ y0 y1 y2 y3 = some rf → bW p l e room_1 s m #[.ref b] below meth c (ce + 1) (sl + 20) (lw_Z below #[.ref b] s) 18 (wd D (fun q : Nat => s.heap.size ≤ q) (wX ad ca) s σ) 182 [(0, .ref b), (1, .ref (ad 0)), (3, .int y0), (4, .int y1), (6, .int y2), (7, .int y3)] []) : ∀ (σ : St) (y0 : Int32) (y1 : Int32) (y2 : Int32) (y3 : Int32) (y4 : Int32) (y5 : Int32), fL_law_577 N L xs q182 σ y0 y1 y2 y3 y4 y5 = some rf → bW p l e room_1 s m #[.ref b] below meth c ce sl (lw_Z below #[.ref b] s) 18 (wd D (fun q : Nat => s.heap.size ≤ q) (wX ad ca) s σ) 577 [(0, .ref b), (1, .ref (ad 0)), (3, .int y0), (4, .int y1), (6, .int y2), (7, .int y3), (9, .int y4)] [.int y5] := by
  intro σ261 x255 x256 x257 x258 x259 x260 h262
  refine b_istore (lv' := [(17, .int x260), (0, .ref b), (1, .ref (ad 0)), (3, .int x255), (4, .int x256), (6, .int x257), (7, .int x258), (9, .int x259)]) C dL_law_577 (by decide) rfl ?_
  refine b_iload C 0 dL_law_579 rfl ?_
  refine b_if_eq (tgt := 624) C dL_law_581 (by decide) (fun c263 => ?_) (fun c263 => ?_)
  · have h264 := ipos h262 c263; clear h262
    refine b_iconst (v := (0 : Int32)) C dL_law_624 (by decide) ?_
    obtain rfl := so1 h264
    exact b_lend hend (by omega) (by omega) dL_law_625 hrf
  have h265 := ineg h262 c263; clear h262
  refine b_aload_n C 2 dL_law_584 rfl rfl ?_
  refine b_iload C 7 dL_law_585 rfl ?_
  refine b_bipush (v := (8 : Int32)) C dL_law_587 (by decide) ?_
  refine b_ishr C dL_law_589 ?_
  refine b_iconst (v := (4 : Int32)) C dL_law_590 (by decide) ?_
  obtain ⟨r267, ec266, h266⟩ := bd0_inv h265; clear h265
  refine b_callSi (rest := [.ref (ad 0)]) C dL_law_591 (ctL_low ec266) mf_L_low ms_L_low kl_L_32 rfl ⟨rfl, rfl⟩ ⟨Nat.le_of_ble_eq_true rfl, Nat.le_of_ble_eq_true rfl⟩ ⟨(by show _ ≤ 600000; omega), (by show _ ≤ 7302250; omega)⟩ rfl (Nat.le_of_ble_eq_true rfl) ?_
  obtain ⟨r270, σ269, ec268, h268⟩ := bd2_inv h266; clear h266
  refine b_callWi (rest := []) C (sameX ad ca) X dL_law_594 (ctX2_setRule ec268) mf_X2_setRule mi_X2_setRule kl_L_114 0 rfl rfl rfl rfl ⟨rfl, rfl⟩ ⟨Nat.le_of_ble_eq_true rfl, Nat.le_of_ble_eq_true rfl⟩ ⟨(by show _ ≤ 600000; omega), (by show _ ≤ 7302250; omega)⟩ rfl (Nat.le_of_ble_eq_true rfl) ?_
  refine b_if_lt (tgt := 624) C dL_law_597 (by decide) (fun c271 => ?_) (fun c271 => ?_)
  · have h272 := ipos h268 c271; clear h268
    refine b_iconst (v := (0 : Int32)) C dL_law_624 (by decide) ?_
    obtain rfl := so1 h272
    exact b_lend hend (by omega) (by omega) dL_law_625 hrf
  have h273 := ineg h268 c271; clear h268
  refine b_aload_n C 2 dL_law_600 rfl rfl ?_
  refine b_iconst (v := (4 : Int32)) C dL_law_601 (by decide) ?_
  obtain ⟨r276, σ275, ec274, h274⟩ := bd2_inv h273; clear h273
  refine b_callWi (rest := []) C (sameX ad ca) X dL_law_602 (ctX2_setRule ec274) mf_X2_setRule mi_X2_setRule kl_L_114 0 rfl rfl rfl rfl ⟨rfl, rfl⟩ ⟨Nat.le_of_ble_eq_true rfl, Nat.le_of_ble_eq_true rfl⟩ ⟨(by show _ ≤ 600000; omega), (by show _ ≤ 7302250; omega)⟩ rfl (Nat.le_of_ble_eq_true rfl) ?_
  refine b_sipush (v := (-1002 : Int32)) C dL_law_605 (by decide) ?_
  refine b_icmp_ne (tgt := 624) C dL_law_608 (by decide) (fun c277 => ?_) (fun c277 => ?_)
  · have h278 := ineg h274 c277; clear h274
    refine b_iconst (v := (0 : Int32)) C dL_law_624 (by decide) ?_
    obtain rfl := so1 h278
    exact b_lend hend (by omega) (by omega) dL_law_625 hrf
  have h279 := ipos h274 c277; clear h274
  refine b_aload_n C 2 dL_law_611 rfl rfl ?_
  refine b_iconst (v := (0 : Int32)) C dL_law_612 (by decide) ?_
  refine b_iconst (v := (1 : Int32)) C dL_law_613 (by decide) ?_
  refine b_iconst (v := (4 : Int32)) C dL_law_614 (by decide) ?_
  obtain ⟨r282, σ281, ec280, h280⟩ := bd2_inv h279; clear h279
  refine b_callWi (rest := []) C (sameX ad ca) X dL_law_615 (ctX2_setLink ec280) mf_X2_setLink mi_X2_setLink kl_L_140 0 rfl rfl rfl rfl ⟨rfl, rfl⟩ ⟨Nat.le_of_ble_eq_true rfl, Nat.le_of_ble_eq_true rfl⟩ ⟨(by show _ ≤ 600000; omega), (by show _ ≤ 7302250; omega)⟩ rfl (Nat.le_of_ble_eq_true rfl) ?_
  refine b_sipush (v := (-1002 : Int32)) C dL_law_618 (by decide) ?_
  refine b_icmp_eq (tgt := 626) C dL_law_621 (by decide) (fun c283 => ?_) (fun c283 => ?_)
  · have h284 := ipos h280 c283; clear h280
    refine b_goto (tgt := 708) C dL_law_626 (by decide) ?_
    exact b_widen (by omega) (by omega) (b_sub [1, 2, 3, 4, 5, 6] rfl (wL_law_708 hNN C X S hend hrf hce hsl hq182 _ _ _ _ _ h284))
  have h285 := ineg h280 c283; clear h280
  refine b_iconst (v := (0 : Int32)) C dL_law_624 (by decide) ?_
  obtain rfl := so1 h285
  exact b_lend hend (by omega) (by omega) dL_law_625 hrf
theorem wL_law_568 {l : Launch} {p : Program} {e : Env} {s : State} {m : MethodId} {below : List Frame} {meth : Method} {c : Code} {D : va_G} {ad : Nat → Nat} {ca : Nat → ClassId} {b L N : Nat} {xs : Nat → Int32} {rf : Int32} (hNN : N ≤ 5000) (C : Cb p s m #[.ref b] meth c RL cL_law 18) (X : Cx s D (fun q : Nat => s.heap.size ≤ q) (wX ad ca) (tyX ca)) (S : Sc s (fun q : Nat => s.heap.size ≤ q) b L xs) (hend : lw_end l p e s m below meth c b) (hrf : rf = 1)  {q182 : St → Int32 → Int32 → Int32 → Int32 → Option Int32} {ce sl : Nat} (hce : ce + 1 ≤ 600000) (hsl : sl + 20 ≤ 7302250) (hq182 : ∀ (σ : St) (y0 : Int32) (y1 : Int32) (y2 : Int32) (y3 : Int32), q182 σ y0 y1 y2 y3 = some rf → bW p l e room_1 s m #[.ref b] below meth c (ce + 1) (sl + 20) (lw_Z below #[.ref b] s) 18 (wd D (fun q : Nat => s.heap.size ≤ q) (wX ad ca) s σ) 182 [(0, .ref b), (1, .ref (ad 0)), (3, .int y0), (4, .int y1), (6, .int y2), (7, .int y3)] []) : ∀ (σ : St) (y0 : Int32) (y1 : Int32) (y2 : Int32) (y3 : Int32) (y4 : Int32) (y5 : Int32) (y6 : Int32) (y7 : Int32), fL_law_568 N L xs q182 σ y0 y1 y2 y3 y4 y5 y6 y7 = some rf → bW p l e room_1 s m #[.ref b] below meth c ce sl (lw_Z below #[.ref b] s) 18 (wd D (fun q : Nat => s.heap.size ≤ q) (wX ad ca) s σ) 568 [(0, .ref b), (1, .ref (ad 0)), (3, .int y0), (4, .int y1), (6, .int y2), (7, .int y3), (9, .int y4)] [.int y5, .int y6, .int y7] := by
  intro σ250 x242 x243 x244 x245 x246 x247 x248 x249 h251
  refine b_iadd C dL_law_568 ?_
  refine b_icmp_ne (tgt := 576) C dL_law_569 (by decide) (fun c252 => ?_) (fun c252 => ?_)
  · have h253 := ineg h251 c252; clear h251
    refine b_iconst (v := (0 : Int32)) C dL_law_576 (by decide) ?_
    exact b_widen (by omega) (by omega) (b_sub [0, 1, 2, 3, 4, 5, 6] rfl (wL_law_577 hNN C X S hend hrf hce hsl hq182 _ _ _ _ _ _ _ h253))
  have h254 := ipos h251 c252; clear h251
  refine b_iconst (v := (1 : Int32)) C dL_law_572 (by decide) ?_
  refine b_goto (tgt := 577) C dL_law_573 (by decide) ?_
  exact b_widen (by omega) (by omega) (b_sub [0, 1, 2, 3, 4, 5, 6] rfl (wL_law_577 hNN C X S hend hrf hce hsl hq182 _ _ _ _ _ _ _ h254))
theorem wL_law_557 {l : Launch} {p : Program} {e : Env} {s : State} {m : MethodId} {below : List Frame} {meth : Method} {c : Code} {D : va_G} {ad : Nat → Nat} {ca : Nat → ClassId} {b L N : Nat} {xs : Nat → Int32} {rf : Int32} (hNN : N ≤ 5000) (C : Cb p s m #[.ref b] meth c RL cL_law 18) (X : Cx s D (fun q : Nat => s.heap.size ≤ q) (wX ad ca) (tyX ca)) (S : Sc s (fun q : Nat => s.heap.size ≤ q) b L xs) (hend : lw_end l p e s m below meth c b) (hrf : rf = 1)  {q182 : St → Int32 → Int32 → Int32 → Int32 → Option Int32} {ce sl : Nat} (hce : ce + 1 ≤ 600000) (hsl : sl + 20 ≤ 7302250) (hq182 : ∀ (σ : St) (y0 : Int32) (y1 : Int32) (y2 : Int32) (y3 : Int32), q182 σ y0 y1 y2 y3 = some rf → bW p l e room_1 s m #[.ref b] below meth c (ce + 1) (sl + 20) (lw_Z below #[.ref b] s) 18 (wd D (fun q : Nat => s.heap.size ≤ q) (wX ad ca) s σ) 182 [(0, .ref b), (1, .ref (ad 0)), (3, .int y0), (4, .int y1), (6, .int y2), (7, .int y3)] []) : ∀ (σ : St) (y0 : Int32) (y1 : Int32) (y2 : Int32) (y3 : Int32) (y4 : Int32) (y5 : Int32) (y6 : Int32) (y7 : Int32) (y8 : Int32), fL_law_557 N L xs q182 σ y0 y1 y2 y3 y4 y5 y6 y7 y8 = some rf → bW p l e room_1 s m #[.ref b] below meth c ce sl (lw_Z below #[.ref b] s) 18 (wd D (fun q : Nat => s.heap.size ≤ q) (wX ad ca) s σ) 557 [(0, .ref b), (1, .ref (ad 0)), (3, .int y0), (4, .int y1), (6, .int y2), (7, .int y3), (9, .int y4), (15, .int y5)] [.int y6, .int y7, .int y8] := by
  intro σ237 x228 x229 x230 x231 x232 x233 x234 x235 x236 h238
  refine b_isub C dL_law_557 ?_
  refine b_iload C 7 dL_law_558 rfl ?_
  refine b_if_ge (tgt := 567) C dL_law_560 (by decide) (fun c239 => ?_) (fun c239 => ?_)
  · have h240 := ipos h238 c239; clear h238
    refine b_iconst (v := (1 : Int32)) C dL_law_567 (by decide) ?_
    exact b_widen (by omega) (by omega) (b_sub [0, 1, 2, 3, 4, 5, 6] rfl (wL_law_568 hNN C X S hend hrf hce hsl hq182 _ _ _ _ _ _ _ _ _ h240))
  have h241 := ineg h238 c239; clear h238
  refine b_iconst (v := (0 : Int32)) C dL_law_563 (by decide) ?_
  refine b_goto (tgt := 568) C dL_law_564 (by decide) ?_
  exact b_widen (by omega) (by omega) (b_sub [0, 1, 2, 3, 4, 5, 6] rfl (wL_law_568 hNN C X S hend hrf hce hsl hq182 _ _ _ _ _ _ _ _ _ h241))
theorem wL_law_535 {l : Launch} {p : Program} {e : Env} {s : State} {m : MethodId} {below : List Frame} {meth : Method} {c : Code} {D : va_G} {ad : Nat → Nat} {ca : Nat → ClassId} {b L N : Nat} {xs : Nat → Int32} {rf : Int32} (hNN : N ≤ 5000) (C : Cb p s m #[.ref b] meth c RL cL_law 18) (X : Cx s D (fun q : Nat => s.heap.size ≤ q) (wX ad ca) (tyX ca)) (S : Sc s (fun q : Nat => s.heap.size ≤ q) b L xs) (hend : lw_end l p e s m below meth c b) (hrf : rf = 1)  {q182 : St → Int32 → Int32 → Int32 → Int32 → Option Int32} {ce sl : Nat} (hce : ce + 1 ≤ 600000) (hsl : sl + 20 ≤ 7302250) (hq182 : ∀ (σ : St) (y0 : Int32) (y1 : Int32) (y2 : Int32) (y3 : Int32), q182 σ y0 y1 y2 y3 = some rf → bW p l e room_1 s m #[.ref b] below meth c (ce + 1) (sl + 20) (lw_Z below #[.ref b] s) 18 (wd D (fun q : Nat => s.heap.size ≤ q) (wX ad ca) s σ) 182 [(0, .ref b), (1, .ref (ad 0)), (3, .int y0), (4, .int y1), (6, .int y2), (7, .int y3)] []) : ∀ (σ : St) (y0 : Int32) (y1 : Int32) (y2 : Int32) (y3 : Int32) (y4 : Int32), fL_law_535 N L xs q182 σ y0 y1 y2 y3 y4 = some rf → bW p l e room_1 s m #[.ref b] below meth c ce sl (lw_Z below #[.ref b] s) 18 (wd D (fun q : Nat => s.heap.size ≤ q) (wX ad ca) s σ) 535 [(0, .ref b), (1, .ref (ad 0)), (3, .int y0), (4, .int y1), (6, .int y2), (7, .int y3), (9, .int y4)] [] := by
  intro σ294 x289 x290 x291 x292 x293 h295
  refine b_iconst (v := (0 : Int32)) C dL_law_535 (by decide) ?_
  refine b_goto (tgt := 577) C dL_law_536 (by decide) ?_
  exact b_widen (by omega) (by omega) (b_sub [0, 1, 2, 3, 4, 5, 6] rfl (wL_law_577 hNN C X S hend hrf hce hsl hq182 _ _ _ _ _ _ _ h295))
theorem wL_law_491 {l : Launch} {p : Program} {e : Env} {s : State} {m : MethodId} {below : List Frame} {meth : Method} {c : Code} {D : va_G} {ad : Nat → Nat} {ca : Nat → ClassId} {b L N : Nat} {xs : Nat → Int32} {rf : Int32} (hNN : N ≤ 5000) (C : Cb p s m #[.ref b] meth c RL cL_law 18) (X : Cx s D (fun q : Nat => s.heap.size ≤ q) (wX ad ca) (tyX ca)) (S : Sc s (fun q : Nat => s.heap.size ≤ q) b L xs) (hend : lw_end l p e s m below meth c b) (hrf : rf = 1)  {q182 : St → Int32 → Int32 → Int32 → Int32 → Option Int32} {ce sl : Nat} (hce : ce + 1 ≤ 600000) (hsl : sl + 20 ≤ 7302250) (hq182 : ∀ (σ : St) (y0 : Int32) (y1 : Int32) (y2 : Int32) (y3 : Int32), q182 σ y0 y1 y2 y3 = some rf → bW p l e room_1 s m #[.ref b] below meth c (ce + 1) (sl + 20) (lw_Z below #[.ref b] s) 18 (wd D (fun q : Nat => s.heap.size ≤ q) (wX ad ca) s σ) 182 [(0, .ref b), (1, .ref (ad 0)), (3, .int y0), (4, .int y1), (6, .int y2), (7, .int y3)] []) : ∀ (σ : St) (y0 : Int32) (y1 : Int32) (y2 : Int32) (y3 : Int32) (y4 : Int32) (y5 : Int32) (y6 : Int32) (y7 : Int32) (y8 : Int32), fL_law_491 N L xs q182 σ y0 y1 y2 y3 y4 y5 y6 y7 y8 = some rf → bW p l e room_1 s m #[.ref b] below meth c ce sl (lw_Z below #[.ref b] s) 18 (wd D (fun q : Nat => s.heap.size ≤ q) (wX ad ca) s σ) 491 [(0, .ref b), (1, .ref (ad 0)), (3, .int y0), (4, .int y1), (6, .int y2), (7, .int y3), (9, .int y4), (11, .int y5), (13, .int y6), (14, .int y7)] [.int y8] := by
  intro σ214 x205 x206 x207 x208 x209 x210 x211 x212 x213 h215
  refine b_istore (lv' := [(15, .int x213), (0, .ref b), (1, .ref (ad 0)), (3, .int x205), (4, .int x206), (6, .int x207), (7, .int x208), (9, .int x209), (11, .int x210), (13, .int x211), (14, .int x212)]) C dL_law_491 (by decide) rfl ?_
  refine b_aload_n C 2 dL_law_493 rfl rfl ?_
  refine b_iload C 8 dL_law_494 rfl ?_
  refine b_iload C 9 dL_law_496 rfl ?_
  refine b_iload C 0 dL_law_498 rfl ?_
  obtain ⟨r218, σ217, ec216, h216⟩ := bd2_inv h215; clear h215
  refine b_callWi (rest := []) C (sameX ad ca) X dL_law_500 (ctX2_setLink ec216) mf_X2_setLink mi_X2_setLink kl_L_140 0 rfl rfl rfl rfl ⟨rfl, rfl⟩ ⟨Nat.le_of_ble_eq_true rfl, Nat.le_of_ble_eq_true rfl⟩ ⟨(by show _ ≤ 600000; omega), (by show _ ≤ 7302250; omega)⟩ rfl (Nat.le_of_ble_eq_true rfl) ?_
  refine b_istore (lv' := [(16, .int r218), (15, .int x213), (0, .ref b), (1, .ref (ad 0)), (3, .int x205), (4, .int x206), (6, .int x207), (7, .int x208), (9, .int x209), (11, .int x210), (13, .int x211), (14, .int x212)]) C dL_law_503 (by decide) rfl ?_
  refine b_iload C 9 dL_law_505 rfl ?_
  refine b_iload C 10 dL_law_507 rfl ?_
  refine b_icmp_ne (tgt := 539) C dL_law_509 (by decide) (fun c219 => ?_) (fun c219 => ?_)
  · have h220 := ineg h216 c219; clear h216
    refine b_aload_n C 3 dL_law_539 rfl rfl ?_
    refine b_bipush (v := (6 : Int32)) C dL_law_540 (by decide) ?_
    obtain ⟨r224, σ223, ec222, h222⟩ := bd2_inv h220; clear h220
    refine b_callWi (rest := []) C (sameX ad ca) X dL_law_542 (ctX2_count ec222) mf_X2_count mi_X2_count kl_L_40 0 rfl rfl rfl rfl ⟨rfl, rfl⟩ ⟨Nat.le_of_ble_eq_true rfl, Nat.le_of_ble_eq_true rfl⟩ ⟨(by show _ ≤ 600000; omega), (by show _ ≤ 7302250; omega)⟩ rfl (Nat.le_of_ble_eq_true rfl) ?_
    refine b_iload C 11 dL_law_545 rfl ?_
    refine b_iload C 0 dL_law_547 rfl ?_
    refine b_if_ge (tgt := 556) C dL_law_549 (by decide) (fun c225 => ?_) (fun c225 => ?_)
    · have h226 := ipos h222 c225; clear h222
      refine b_iconst (v := (1 : Int32)) C dL_law_556 (by decide) ?_
      exact b_widen (by omega) (by omega) (b_sub [2, 3, 4, 5, 6, 7, 8, 1] rfl (wL_law_557 hNN C X S hend hrf hce hsl hq182 _ _ _ _ _ _ _ _ _ _ h226))
    have h227 := ineg h222 c225; clear h222
    refine b_iconst (v := (0 : Int32)) C dL_law_552 (by decide) ?_
    refine b_goto (tgt := 557) C dL_law_553 (by decide) ?_
    exact b_widen (by omega) (by omega) (b_sub [2, 3, 4, 5, 6, 7, 8, 1] rfl (wL_law_557 hNN C X S hend hrf hce hsl hq182 _ _ _ _ _ _ _ _ _ _ h227))
  have h221 := ipos h216 c219; clear h216
  refine b_iload C 0 dL_law_512 rfl ?_
  refine b_sipush (v := (-1001 : Int32)) C dL_law_514 (by decide) ?_
  refine b_icmp_ne (tgt := 535) C dL_law_517 (by decide) (fun c286 => ?_) (fun c286 => ?_)
  · have h287 := ineg h221 c286; clear h221
    exact b_widen (by omega) (by omega) (b_sub [2, 3, 4, 5, 6, 7, 8] rfl (wL_law_535 hNN C X S hend hrf hce hsl hq182 _ _ _ _ _ _ h287))
  have h288 := ipos h221 c286; clear h221
  refine b_aload_n C 3 dL_law_520 rfl rfl ?_
  refine b_bipush (v := (6 : Int32)) C dL_law_521 (by decide) ?_
  obtain ⟨r298, σ297, ec296, h296⟩ := bd2_inv h288; clear h288
  refine b_callWi (rest := []) C (sameX ad ca) X dL_law_523 (ctX2_count ec296) mf_X2_count mi_X2_count kl_L_40 0 rfl rfl rfl rfl ⟨rfl, rfl⟩ ⟨Nat.le_of_ble_eq_true rfl, Nat.le_of_ble_eq_true rfl⟩ ⟨(by show _ ≤ 600000; omega), (by show _ ≤ 7302250; omega)⟩ rfl (Nat.le_of_ble_eq_true rfl) ?_
  refine b_iload C 11 dL_law_526 rfl ?_
  refine b_icmp_ne (tgt := 535) C dL_law_528 (by decide) (fun c299 => ?_) (fun c299 => ?_)
  · have h300 := ineg h296 c299; clear h296
    exact b_widen (by omega) (by omega) (b_sub [2, 3, 4, 5, 6, 7, 8] rfl (wL_law_535 hNN C X S hend hrf hce hsl hq182 _ _ _ _ _ _ h300))
  have h301 := ipos h296 c299; clear h296
  refine b_iconst (v := (1 : Int32)) C dL_law_531 (by decide) ?_
  refine b_goto (tgt := 577) C dL_law_532 (by decide) ?_
  exact b_widen (by omega) (by omega) (b_sub [2, 3, 4, 5, 6, 7, 8] rfl (wL_law_577 hNN C X S hend hrf hce hsl hq182 _ _ _ _ _ _ _ h301))
theorem wL_law_404 {l : Launch} {p : Program} {e : Env} {s : State} {m : MethodId} {below : List Frame} {meth : Method} {c : Code} {D : va_G} {ad : Nat → Nat} {ca : Nat → ClassId} {b L N : Nat} {xs : Nat → Int32} {rf : Int32} (hNN : N ≤ 5000) (C : Cb p s m #[.ref b] meth c RL cL_law 18) (X : Cx s D (fun q : Nat => s.heap.size ≤ q) (wX ad ca) (tyX ca)) (S : Sc s (fun q : Nat => s.heap.size ≤ q) b L xs) (hend : lw_end l p e s m below meth c b) (hrf : rf = 1)  {q182 : St → Int32 → Int32 → Int32 → Int32 → Option Int32} {ce sl : Nat} (hce : ce + 1 ≤ 600000) (hsl : sl + 20 ≤ 7302250) (hq182 : ∀ (σ : St) (y0 : Int32) (y1 : Int32) (y2 : Int32) (y3 : Int32), q182 σ y0 y1 y2 y3 = some rf → bW p l e room_1 s m #[.ref b] below meth c (ce + 1) (sl + 20) (lw_Z below #[.ref b] s) 18 (wd D (fun q : Nat => s.heap.size ≤ q) (wX ad ca) s σ) 182 [(0, .ref b), (1, .ref (ad 0)), (3, .int y0), (4, .int y1), (6, .int y2), (7, .int y3)] []) : ∀ (σ : St) (y0 : Int32) (y1 : Int32) (y2 : Int32) (y3 : Int32) (y4 : Int32) (y5 : Int32) (y6 : Int32), fL_law_404 N L xs q182 σ y0 y1 y2 y3 y4 y5 y6 = some rf → bW p l e room_1 s m #[.ref b] below meth c ce sl (lw_Z below #[.ref b] s) 18 (wd D (fun q : Nat => s.heap.size ≤ q) (wX ad ca) s σ) 404 [(0, .ref b), (1, .ref (ad 0)), (3, .int y0), (4, .int y1), (6, .int y2), (7, .int y3), (11, .int y4)] [.int y5, .int y6] := by
  intro σ377 x370 x371 x372 x373 x374 x375 x376 h378
  refine b_icmp_ne (tgt := 437) C dL_law_404 (by decide) (fun c379 => ?_) (fun c379 => ?_)
  · have h380 := ineg h378 c379; clear h378
    refine b_iconst (v := (0 : Int32)) C dL_law_437 (by decide) ?_
    obtain rfl := so1 h380
    exact b_lend hend (by omega) (by omega) dL_law_438 hrf
  have h381 := ipos h378 c379; clear h378
  refine b_aload_n C 1 dL_law_407 rfl rfl ?_
  refine b_iload C 6 dL_law_408 rfl ?_
  refine b_bipush (v := (6 : Int32)) C dL_law_410 (by decide) ?_
  refine b_iconst (v := (0 : Int32)) C dL_law_412 (by decide) ?_
  refine b_iconst (v := (1 : Int32)) C dL_law_413 (by decide) ?_
  obtain ⟨r384, σ383, ec382, h382⟩ := bd2_inv h381; clear h381
  refine b_callWi (rest := []) C (sameX ad ca) X dL_law_414 (ctX2_setFaulty ec382) mf_X2_setFaulty mi_X2_setFaulty kl_L_136 0 rfl rfl rfl rfl ⟨rfl, rfl⟩ ⟨Nat.le_of_ble_eq_true rfl, Nat.le_of_ble_eq_true rfl⟩ ⟨(by show _ ≤ 600000; omega), (by show _ ≤ 7302250; omega)⟩ rfl (Nat.le_of_ble_eq_true rfl) ?_
  refine b_sipush (v := (-1002 : Int32)) C dL_law_417 (by decide) ?_
  refine b_icmp_ne (tgt := 437) C dL_law_420 (by decide) (fun c385 => ?_) (fun c385 => ?_)
  · have h386 := ineg h382 c385; clear h382
    refine b_iconst (v := (0 : Int32)) C dL_law_437 (by decide) ?_
    obtain rfl := so1 h386
    exact b_lend hend (by omega) (by omega) dL_law_438 hrf
  have h387 := ipos h382 c385; clear h382
  refine b_aload_n C 1 dL_law_423 rfl rfl ?_
  refine b_iload_n C 2 dL_law_424 rfl rfl ?_
  refine b_iconst (v := (1 : Int32)) C dL_law_425 (by decide) ?_
  refine b_iconst (v := (0 : Int32)) C dL_law_426 (by decide) ?_
  refine b_iconst (v := (1 : Int32)) C dL_law_427 (by decide) ?_
  obtain ⟨r390, σ389, ec388, h388⟩ := bd2_inv h387; clear h387
  refine b_callWi (rest := []) C (sameX ad ca) X dL_law_428 (ctX2_setFaulty ec388) mf_X2_setFaulty mi_X2_setFaulty kl_L_136 0 rfl rfl rfl rfl ⟨rfl, rfl⟩ ⟨Nat.le_of_ble_eq_true rfl, Nat.le_of_ble_eq_true rfl⟩ ⟨(by show _ ≤ 600000; omega), (by show _ ≤ 7302250; omega)⟩ rfl (Nat.le_of_ble_eq_true rfl) ?_
  refine b_sipush (v := (-1001 : Int32)) C dL_law_431 (by decide) ?_
  refine b_icmp_eq (tgt := 439) C dL_law_434 (by decide) (fun c391 => ?_) (fun c391 => ?_)
  · have h392 := ipos h388 c391; clear h388
    refine b_goto (tgt := 708) C dL_law_439 (by decide) ?_
    exact b_widen (by omega) (by omega) (b_sub [0, 1, 2, 3, 4, 5] rfl (wL_law_708 hNN C X S hend hrf hce hsl hq182 _ _ _ _ _ h392))
  have h393 := ineg h388 c391; clear h388
  refine b_iconst (v := (0 : Int32)) C dL_law_437 (by decide) ?_
  obtain rfl := so1 h393
  exact b_lend hend (by omega) (by omega) dL_law_438 hrf
theorem wL_law_387 {l : Launch} {p : Program} {e : Env} {s : State} {m : MethodId} {below : List Frame} {meth : Method} {c : Code} {D : va_G} {ad : Nat → Nat} {ca : Nat → ClassId} {b L N : Nat} {xs : Nat → Int32} {rf : Int32} (hNN : N ≤ 5000) (C : Cb p s m #[.ref b] meth c RL cL_law 18) (X : Cx s D (fun q : Nat => s.heap.size ≤ q) (wX ad ca) (tyX ca)) (S : Sc s (fun q : Nat => s.heap.size ≤ q) b L xs) (hend : lw_end l p e s m below meth c b) (hrf : rf = 1)  {q182 : St → Int32 → Int32 → Int32 → Int32 → Option Int32} {ce sl : Nat} (hce : ce + 1 ≤ 600000) (hsl : sl + 20 ≤ 7302250) (hq182 : ∀ (σ : St) (y0 : Int32) (y1 : Int32) (y2 : Int32) (y3 : Int32), q182 σ y0 y1 y2 y3 = some rf → bW p l e room_1 s m #[.ref b] below meth c (ce + 1) (sl + 20) (lw_Z below #[.ref b] s) 18 (wd D (fun q : Nat => s.heap.size ≤ q) (wX ad ca) s σ) 182 [(0, .ref b), (1, .ref (ad 0)), (3, .int y0), (4, .int y1), (6, .int y2), (7, .int y3)] []) : ∀ (σ : St) (y0 : Int32) (y1 : Int32) (y2 : Int32) (y3 : Int32) (y4 : Int32) (y5 : Int32) (y6 : Int32) (y7 : Int32), fL_law_387 N L xs q182 σ y0 y1 y2 y3 y4 y5 y6 y7 = some rf → bW p l e room_1 s m #[.ref b] below meth c ce sl (lw_Z below #[.ref b] s) 18 (wd D (fun q : Nat => s.heap.size ≤ q) (wX ad ca) s σ) 387 [(0, .ref b), (1, .ref (ad 0)), (3, .int y0), (4, .int y1), (6, .int y2), (7, .int y3), (11, .int y4), (12, .int y5), (13, .int y6)] [.int y7] := by
  intro σ365 x357 x358 x359 x360 x361 x362 x363 x364 h366
  refine b_istore (lv' := [(15, .int x364), (0, .ref b), (1, .ref (ad 0)), (3, .int x357), (4, .int x358), (6, .int x359), (7, .int x360), (11, .int x361), (12, .int x362), (13, .int x363)]) C dL_law_387 (by decide) rfl ?_
  refine b_iload C 0 dL_law_389 rfl ?_
  refine b_iload C 8 dL_law_391 rfl ?_
  refine b_if_le (tgt := 402) C dL_law_393 (by decide) (fun c367 => ?_) (fun c367 => ?_)
  · have h368 := ipos h366 c367; clear h366
    refine b_iload C 9 dL_law_402 rfl ?_
    exact b_widen (by omega) (by omega) (b_sub [1, 2, 3, 4, 5, 6, 7] rfl (wL_law_404 hNN C X S hend hrf hce hsl hq182 _ _ _ _ _ _ _ _ h368))
  have h369 := ineg h366 c367; clear h366
  refine b_sipush (v := (-1003 : Int32)) C dL_law_396 (by decide) ?_
  refine b_goto (tgt := 404) C dL_law_399 (by decide) ?_
  exact b_widen (by omega) (by omega) (b_sub [1, 2, 3, 4, 5, 6, 7] rfl (wL_law_404 hNN C X S hend hrf hce hsl hq182 _ _ _ _ _ _ _ _ h369))
theorem wL_law_384 {l : Launch} {p : Program} {e : Env} {s : State} {m : MethodId} {below : List Frame} {meth : Method} {c : Code} {D : va_G} {ad : Nat → Nat} {ca : Nat → ClassId} {b L N : Nat} {xs : Nat → Int32} {rf : Int32} (hNN : N ≤ 5000) (C : Cb p s m #[.ref b] meth c RL cL_law 18) (X : Cx s D (fun q : Nat => s.heap.size ≤ q) (wX ad ca) (tyX ca)) (S : Sc s (fun q : Nat => s.heap.size ≤ q) b L xs) (hend : lw_end l p e s m below meth c b) (hrf : rf = 1)  {q182 : St → Int32 → Int32 → Int32 → Int32 → Option Int32} {ce sl : Nat} (hce : ce + 1 ≤ 600000) (hsl : sl + 20 ≤ 7302250) (hq182 : ∀ (σ : St) (y0 : Int32) (y1 : Int32) (y2 : Int32) (y3 : Int32), q182 σ y0 y1 y2 y3 = some rf → bW p l e room_1 s m #[.ref b] below meth c (ce + 1) (sl + 20) (lw_Z below #[.ref b] s) 18 (wd D (fun q : Nat => s.heap.size ≤ q) (wX ad ca) s σ) 182 [(0, .ref b), (1, .ref (ad 0)), (3, .int y0), (4, .int y1), (6, .int y2), (7, .int y3)] []) : ∀ (σ : St) (y0 : Int32) (y1 : Int32) (y2 : Int32) (y3 : Int32) (y4 : Int32) (y5 : Int32) (y6 : Int32) (y7 : Int32) (y8 : Int32) (y9 : Int32) (y10 : Int32), fL_law_384 N L xs q182 σ y0 y1 y2 y3 y4 y5 y6 y7 y8 y9 y10 = some rf → bW p l e room_1 s m #[.ref b] below meth c ce sl (lw_Z below #[.ref b] s) 18 (wd D (fun q : Nat => s.heap.size ≤ q) (wX ad ca) s σ) 384 [(0, .ref b), (1, .ref (ad 0)), (3, .int y0), (4, .int y1), (6, .int y2), (7, .int y3), (11, .int y4), (12, .int y5), (13, .int y6)] [.int y7, .int y8, .int y9, .int y10, .ref (ad 0)] := by
  intro σ352 x341 x342 x343 x344 x345 x346 x347 x348 x349 x350 x351 h353
  obtain ⟨r356, σ355, ec354, h354⟩ := bd2_inv h353; clear h353
  refine b_callWi (rest := []) C (sameX ad ca) X dL_law_384 (ctX2_setFaulty ec354) mf_X2_setFaulty mi_X2_setFaulty kl_L_136 0 rfl rfl rfl rfl ⟨rfl, rfl⟩ ⟨Nat.le_of_ble_eq_true rfl, Nat.le_of_ble_eq_true rfl⟩ ⟨(by show _ ≤ 600000; omega), (by show _ ≤ 7302250; omega)⟩ rfl (Nat.le_of_ble_eq_true rfl) ?_
  exact b_widen (by omega) (by omega) (b_sub [0, 1, 2, 3, 4, 5, 6, 7, 8] rfl (wL_law_387 hNN C X S hend hrf hce hsl hq182 _ _ _ _ _ _ _ _ _ h354))
theorem wL_law_323 {l : Launch} {p : Program} {e : Env} {s : State} {m : MethodId} {below : List Frame} {meth : Method} {c : Code} {D : va_G} {ad : Nat → Nat} {ca : Nat → ClassId} {b L N : Nat} {xs : Nat → Int32} {rf : Int32} (hNN : N ≤ 5000) (C : Cb p s m #[.ref b] meth c RL cL_law 18) (X : Cx s D (fun q : Nat => s.heap.size ≤ q) (wX ad ca) (tyX ca)) (S : Sc s (fun q : Nat => s.heap.size ≤ q) b L xs) (hend : lw_end l p e s m below meth c b) (hrf : rf = 1)  {q182 : St → Int32 → Int32 → Int32 → Int32 → Option Int32} {ce sl : Nat} (hce : ce + 1 ≤ 600000) (hsl : sl + 20 ≤ 7302250) (hq182 : ∀ (σ : St) (y0 : Int32) (y1 : Int32) (y2 : Int32) (y3 : Int32), q182 σ y0 y1 y2 y3 = some rf → bW p l e room_1 s m #[.ref b] below meth c (ce + 1) (sl + 20) (lw_Z below #[.ref b] s) 18 (wd D (fun q : Nat => s.heap.size ≤ q) (wX ad ca) s σ) 182 [(0, .ref b), (1, .ref (ad 0)), (3, .int y0), (4, .int y1), (6, .int y2), (7, .int y3)] []) : ∀ (σ : St) (y0 : Int32) (y1 : Int32) (y2 : Int32) (y3 : Int32) (y4 : Int32) (y5 : Int32) (y6 : Int32) (y7 : Int32) (y8 : Int32) (y9 : Int32), fL_law_323 N L xs q182 σ y0 y1 y2 y3 y4 y5 y6 y7 y8 y9 = some rf → bW p l e room_1 s m #[.ref b] below meth c ce sl (lw_Z below #[.ref b] s) 18 (wd D (fun q : Nat => s.heap.size ≤ q) (wX ad ca) s σ) 323 [(0, .ref b), (1, .ref (ad 0)), (3, .int y0), (4, .int y1), (6, .int y2), (7, .int y3), (8, .int y4), (9, .int y5), (11, .int y6), (12, .int y7), (13, .int y8)] [.int y9] := by
  intro σ329 x319 x320 x321 x322 x323 x324 x325 x326 x327 x328 h330
  refine b_istore (lv' := [(14, .int x328), (0, .ref b), (1, .ref (ad 0)), (3, .int x319), (4, .int x320), (6, .int x321), (7, .int x322), (8, .int x323), (9, .int x324), (11, .int x325), (12, .int x326), (13, .int x327)]) C dL_law_323 (by decide) rfl ?_
  refine b_iload C 7 dL_law_325 rfl ?_
  refine b_bipush (v := (8 : Int32)) C dL_law_327 (by decide) ?_
  refine b_ishr C dL_law_329 ?_
  refine b_iconst (v := (3 : Int32)) C dL_law_330 (by decide) ?_
  refine b_iand C dL_law_331 ?_
  refine b_if_ne (tgt := 344) C dL_law_332 (by decide) (fun c331 => ?_) (fun c331 => ?_)
  · have h332 := ineg h330 c331; clear h330
    refine b_aload_n C 2 dL_law_344 rfl rfl ?_
    refine b_iload C 9 dL_law_345 rfl ?_
    refine b_iconst (v := (1 : Int32)) C dL_law_347 (by decide) ?_
    refine b_iload C 8 dL_law_348 rfl ?_
    refine b_iconst (v := (4 : Int32)) C dL_law_350 (by decide) ?_
    refine b_ishr C dL_law_351 ?_
    refine b_iconst (v := (5 : Int32)) C dL_law_352 (by decide) ?_
    obtain ⟨r335, ec334, h334⟩ := bd0_inv h332; clear h332
    refine b_callSi (rest := [.int (1 : Int32), .int x325, .ref (ad 0)]) C dL_law_353 (ctL_low ec334) mf_L_low ms_L_low kl_L_32 rfl ⟨rfl, rfl⟩ ⟨Nat.le_of_ble_eq_true rfl, Nat.le_of_ble_eq_true rfl⟩ ⟨(by show _ ≤ 600000; omega), (by show _ ≤ 7302250; omega)⟩ rfl (Nat.le_of_ble_eq_true rfl) ?_
    refine b_iadd C dL_law_356 ?_
    refine b_iload C 8 dL_law_357 rfl ?_
    refine b_bipush (v := (8 : Int32)) C dL_law_359 (by decide) ?_
    refine b_ishr C dL_law_361 ?_
    refine b_bipush (v := (41 : Int32)) C dL_law_362 (by decide) ?_
    obtain ⟨r337, ec336, h336⟩ := bd0_inv h334; clear h334
    refine b_callSi (rest := [.int ((1 : Int32) + r335), .int x325, .ref (ad 0)]) C dL_law_364 (ctL_low ec336) mf_L_low ms_L_low kl_L_32 rfl ⟨rfl, rfl⟩ ⟨Nat.le_of_ble_eq_true rfl, Nat.le_of_ble_eq_true rfl⟩ ⟨(by show _ ≤ 600000; omega), (by show _ ≤ 7302250; omega)⟩ rfl (Nat.le_of_ble_eq_true rfl) ?_
    refine b_bipush (v := (20 : Int32)) C dL_law_367 (by decide) ?_
    refine b_isub C dL_law_369 ?_
    refine b_iload C 0 dL_law_370 rfl ?_
    refine b_sipush (v := (1000 : Int32)) C dL_law_372 (by decide) ?_
    refine b_icmp_le (tgt := 382) C dL_law_375 (by decide) (fun c338 => ?_) (fun c338 => ?_)
    · have h339 := ipos h336 c338; clear h336
      refine b_iload C 0 dL_law_382 rfl ?_
      exact b_widen (by omega) (by omega) (b_sub [1, 2, 3, 4, 5, 6, 9, 10, 11] rfl (wL_law_384 hNN C X S hend hrf hce hsl hq182 _ _ _ _ _ _ _ _ _ _ _ _ h339))
    have h340 := ineg h336 c338; clear h336
    refine b_iconst (v := (1 : Int32)) C dL_law_378 (by decide) ?_
    refine b_goto (tgt := 384) C dL_law_379 (by decide) ?_
    exact b_widen (by omega) (by omega) (b_sub [1, 2, 3, 4, 5, 6, 9, 10, 11] rfl (wL_law_384 hNN C X S hend hrf hce hsl hq182 _ _ _ _ _ _ _ _ _ _ _ _ h340))
  have h333 := ipos h330 c331; clear h330
  refine b_aload_n C 2 dL_law_335 rfl rfl ?_
  refine b_iload C 9 dL_law_336 rfl ?_
  obtain ⟨r396, σ395, ec394, h394⟩ := bd2_inv h333; clear h333
  refine b_callWi (rest := []) C (sameX ad ca) X dL_law_338 (ctX2_setCorrect ec394) mf_X2_setCorrect mi_X2_setCorrect kl_L_133 0 rfl rfl rfl rfl ⟨rfl, rfl⟩ ⟨Nat.le_of_ble_eq_true rfl, Nat.le_of_ble_eq_true rfl⟩ ⟨(by show _ ≤ 600000; omega), (by show _ ≤ 7302250; omega)⟩ rfl (Nat.le_of_ble_eq_true rfl) ?_
  refine b_goto (tgt := 387) C dL_law_341 (by decide) ?_
  exact b_widen (by omega) (by omega) (b_sub [1, 2, 3, 4, 5, 6, 9, 10, 11] rfl (wL_law_387 hNN C X S hend hrf hce hsl hq182 _ _ _ _ _ _ _ _ _ h394))
theorem wL_law_317 {l : Launch} {p : Program} {e : Env} {s : State} {m : MethodId} {below : List Frame} {meth : Method} {c : Code} {D : va_G} {ad : Nat → Nat} {ca : Nat → ClassId} {b L N : Nat} {xs : Nat → Int32} {rf : Int32} (hNN : N ≤ 5000) (C : Cb p s m #[.ref b] meth c RL cL_law 18) (X : Cx s D (fun q : Nat => s.heap.size ≤ q) (wX ad ca) (tyX ca)) (S : Sc s (fun q : Nat => s.heap.size ≤ q) b L xs) (hend : lw_end l p e s m below meth c b) (hrf : rf = 1)  {q182 : St → Int32 → Int32 → Int32 → Int32 → Option Int32} {ce sl : Nat} (hce : ce + 1 ≤ 600000) (hsl : sl + 20 ≤ 7302250) (hq182 : ∀ (σ : St) (y0 : Int32) (y1 : Int32) (y2 : Int32) (y3 : Int32), q182 σ y0 y1 y2 y3 = some rf → bW p l e room_1 s m #[.ref b] below meth c (ce + 1) (sl + 20) (lw_Z below #[.ref b] s) 18 (wd D (fun q : Nat => s.heap.size ≤ q) (wX ad ca) s σ) 182 [(0, .ref b), (1, .ref (ad 0)), (3, .int y0), (4, .int y1), (6, .int y2), (7, .int y3)] []) : ∀ (σ : St) (y0 : Int32) (y1 : Int32) (y2 : Int32) (y3 : Int32) (y4 : Int32) (y5 : Int32) (y6 : Int32) (y7 : Int32) (y8 : Int32), fL_law_317 N L xs q182 σ y0 y1 y2 y3 y4 y5 y6 y7 y8 = some rf → bW p l e room_1 s m #[.ref b] below meth c ce sl (lw_Z below #[.ref b] s) 18 (wd D (fun q : Nat => s.heap.size ≤ q) (wX ad ca) s σ) 317 [(0, .ref b), (1, .ref (ad 0)), (3, .int y0), (4, .int y1), (6, .int y2), (7, .int y3), (8, .int y4), (9, .int y5), (11, .int y6), (12, .int y7), (13, .int y8)] [] := by
  intro σ317 x308 x309 x310 x311 x312 x313 x314 x315 x316 h318
  refine b_iconst (v := (1 : Int32)) C dL_law_317 (by decide) ?_
  refine b_goto (tgt := 323) C dL_law_318 (by decide) ?_
  exact b_widen (by omega) (by omega) (b_sub [0, 1, 2, 3, 4, 5, 6, 7, 8, 9, 10] rfl (wL_law_323 hNN C X S hend hrf hce hsl hq182 _ _ _ _ _ _ _ _ _ _ _ h318))
theorem wL_law_279 {l : Launch} {p : Program} {e : Env} {s : State} {m : MethodId} {below : List Frame} {meth : Method} {c : Code} {D : va_G} {ad : Nat → Nat} {ca : Nat → ClassId} {b L N : Nat} {xs : Nat → Int32} {rf : Int32} (hNN : N ≤ 5000) (C : Cb p s m #[.ref b] meth c RL cL_law 18) (X : Cx s D (fun q : Nat => s.heap.size ≤ q) (wX ad ca) (tyX ca)) (S : Sc s (fun q : Nat => s.heap.size ≤ q) b L xs) (hend : lw_end l p e s m below meth c b) (hrf : rf = 1)  {q182 : St → Int32 → Int32 → Int32 → Int32 → Option Int32} {ce sl : Nat} (hce : ce + 1 ≤ 600000) (hsl : sl + 20 ≤ 7302250) (hq182 : ∀ (σ : St) (y0 : Int32) (y1 : Int32) (y2 : Int32) (y3 : Int32), q182 σ y0 y1 y2 y3 = some rf → bW p l e room_1 s m #[.ref b] below meth c (ce + 1) (sl + 20) (lw_Z below #[.ref b] s) 18 (wd D (fun q : Nat => s.heap.size ≤ q) (wX ad ca) s σ) 182 [(0, .ref b), (1, .ref (ad 0)), (3, .int y0), (4, .int y1), (6, .int y2), (7, .int y3)] []) : ∀ (σ : St) (y0 : Int32) (y1 : Int32) (y2 : Int32) (y3 : Int32) (y4 : Int32) (y5 : Int32) (y6 : Int32) (y7 : Int32), fL_law_279 N L xs q182 σ y0 y1 y2 y3 y4 y5 y6 y7 = some rf → bW p l e room_1 s m #[.ref b] below meth c ce sl (lw_Z below #[.ref b] s) 18 (wd D (fun q : Nat => s.heap.size ≤ q) (wX ad ca) s σ) 279 [(0, .ref b), (1, .ref (ad 0)), (3, .int y0), (4, .int y1), (6, .int y2), (7, .int y3), (9, .int y4)] [.int y5, .int y6, .int y7, .ref (ad 0)] := by
  intro σ411 x403 x404 x405 x406 x407 x408 x409 x410 h412
  refine b_iload C 6 dL_law_279 rfl ?_
  obtain ⟨r415, σ414, ec413, h413⟩ := bd2_inv h412; clear h412
  refine b_callSWi (rest := []) C (sameX ad ca) X dL_law_281 (ctL_gives ec413) mf_L_gives ms_L_gives kl_L_129 rfl ⟨rfl, rfl⟩ ⟨Nat.le_of_ble_eq_true rfl, Nat.le_of_ble_eq_true rfl⟩ ⟨(by show _ ≤ 600000; omega), (by show _ ≤ 7302250; omega)⟩ rfl (Nat.le_of_ble_eq_true rfl) ?_
  refine b_if_ne (tgt := 708) C dL_law_284 (by decide) (fun c416 => ?_) (fun c416 => ?_)
  · have h417 := ineg h413 c416; clear h413
    exact b_widen (by omega) (by omega) (b_sub [0, 1, 2, 3, 4, 5] rfl (wL_law_708 hNN C X S hend hrf hce hsl hq182 _ _ _ _ _ h417))
  have h418 := ipos h413 c416; clear h413
  refine b_iconst (v := (0 : Int32)) C dL_law_287 (by decide) ?_
  obtain rfl := so1 h418
  exact b_lend hend (by omega) (by omega) dL_law_288 hrf
theorem wL_law_233 {l : Launch} {p : Program} {e : Env} {s : State} {m : MethodId} {below : List Frame} {meth : Method} {c : Code} {D : va_G} {ad : Nat → Nat} {ca : Nat → ClassId} {b L N : Nat} {xs : Nat → Int32} {rf : Int32} (hNN : N ≤ 5000) (C : Cb p s m #[.ref b] meth c RL cL_law 18) (X : Cx s D (fun q : Nat => s.heap.size ≤ q) (wX ad ca) (tyX ca)) (S : Sc s (fun q : Nat => s.heap.size ≤ q) b L xs) (hend : lw_end l p e s m below meth c b) (hrf : rf = 1)  {q182 : St → Int32 → Int32 → Int32 → Int32 → Option Int32} {ce sl : Nat} (hce : ce + 1 ≤ 600000) (hsl : sl + 20 ≤ 7302250) (hq182 : ∀ (σ : St) (y0 : Int32) (y1 : Int32) (y2 : Int32) (y3 : Int32), q182 σ y0 y1 y2 y3 = some rf → bW p l e room_1 s m #[.ref b] below meth c (ce + 1) (sl + 20) (lw_Z below #[.ref b] s) 18 (wd D (fun q : Nat => s.heap.size ≤ q) (wX ad ca) s σ) 182 [(0, .ref b), (1, .ref (ad 0)), (3, .int y0), (4, .int y1), (6, .int y2), (7, .int y3)] []) : ∀ (σ : St) (y0 : Int32) (y1 : Int32) (y2 : Int32) (y3 : Int32) (y4 : Int32) (y5 : Int32) (y6 : Int32), fL_law_233 N L xs q182 σ y0 y1 y2 y3 y4 y5 y6 = some rf → bW p l e room_1 s m #[.ref b] below meth c ce sl (lw_Z below #[.ref b] s) 18 (wd D (fun q : Nat => s.heap.size ≤ q) (wX ad ca) s σ) 233 [(0, .ref b), (1, .ref (ad 0)), (3, .int y0), (4, .int y1), (6, .int y2), (7, .int y3), (8, .int y4), (9, .int y5)] [.int y6] := by
  intro σ96 x89 x90 x91 x92 x93 x94 x95 h97
  refine b_istore (lv' := [(10, .int x95), (0, .ref b), (1, .ref (ad 0)), (3, .int x89), (4, .int x90), (6, .int x91), (7, .int x92), (8, .int x93), (9, .int x94)]) C dL_law_233 (by decide) rfl ?_
  refine b_iload C 7 dL_law_235 rfl ?_
  refine b_iload_n C 3 dL_law_237 rfl rfl ?_
  obtain ⟨r99, ec98, h98⟩ := bd0_inv h97; clear h97
  refine b_callSi (rest := []) C dL_law_238 (ctL_low ec98) mf_L_low ms_L_low kl_L_32 rfl ⟨rfl, rfl⟩ ⟨Nat.le_of_ble_eq_true rfl, Nat.le_of_ble_eq_true rfl⟩ ⟨(by show _ ≤ 600000; omega), (by show _ ≤ 7302250; omega)⟩ rfl (Nat.le_of_ble_eq_true rfl) ?_
  refine b_istore (lv' := [(11, .int r99), (10, .int x95), (0, .ref b), (1, .ref (ad 0)), (3, .int x89), (4, .int x90), (6, .int x91), (7, .int x92), (8, .int x93), (9, .int x94)]) C dL_law_241 (by decide) rfl ?_
  refine b_aload_n C 3 dL_law_243 rfl rfl ?_
  refine b_iconst (v := (3 : Int32)) C dL_law_244 (by decide) ?_
  obtain ⟨r102, σ101, ec100, h100⟩ := bd2_inv h98; clear h98
  refine b_callWi (rest := []) C (sameX ad ca) X dL_law_245 (ctX2_count ec100) mf_X2_count mi_X2_count kl_L_40 0 rfl rfl rfl rfl ⟨rfl, rfl⟩ ⟨Nat.le_of_ble_eq_true rfl, Nat.le_of_ble_eq_true rfl⟩ ⟨(by show _ ≤ 600000; omega), (by show _ ≤ 7302250; omega)⟩ rfl (Nat.le_of_ble_eq_true rfl) ?_
  refine b_istore (lv' := [(12, .int r102), (11, .int r99), (10, .int x95), (0, .ref b), (1, .ref (ad 0)), (3, .int x89), (4, .int x90), (6, .int x91), (7, .int x92), (8, .int x93), (9, .int x94)]) C dL_law_248 (by decide) rfl ?_
  refine b_iload C 2 dL_law_250 rfl ?_
  refine b_iconst (v := (2 : Int32)) C dL_law_252 (by decide) ?_
  refine b_icmp_ge (tgt := 289) C dL_law_253 (by decide) (fun c103 => ?_) (fun c103 => ?_)
  · have h104 := ipos h100 c103; clear h100
    refine b_iload C 2 dL_law_289 rfl ?_
    refine b_iconst (v := (2 : Int32)) C dL_law_291 (by decide) ?_
    refine b_icmp_ne (tgt := 442) C dL_law_292 (by decide) (fun c106 => ?_) (fun c106 => ?_)
    · have h107 := ineg h104 c106; clear h104
      refine b_iload C 2 dL_law_442 rfl ?_
      refine b_iconst (v := (3 : Int32)) C dL_law_444 (by decide) ?_
      refine b_icmp_ne (tgt := 629) C dL_law_445 (by decide) (fun c109 => ?_) (fun c109 => ?_)
      · have h110 := ineg h107 c109; clear h107
        refine b_iload C 2 dL_law_629 rfl ?_
        refine b_iconst (v := (4 : Int32)) C dL_law_631 (by decide) ?_
        refine b_icmp_ne (tgt := 649) C dL_law_632 (by decide) (fun c112 => ?_) (fun c112 => ?_)
        · have h113 := ineg h110 c112; clear h110
          refine b_iload C 2 dL_law_649 rfl ?_
          refine b_iconst (v := (5 : Int32)) C dL_law_651 (by decide) ?_
          refine b_icmp_ne (tgt := 696) C dL_law_652 (by decide) (fun c115 => ?_) (fun c115 => ?_)
          · have h116 := ineg h113 c115; clear h113
            refine b_aload_n C 4 dL_law_696 rfl rfl ?_
            refine b_iload_n C 5 dL_law_697 rfl rfl ?_
            refine b_iload C 6 dL_law_698 rfl ?_
            obtain ⟨r120, σ119, ec118, h118⟩ := bd2_inv h116; clear h116
            refine b_callRi (rest := []) C (sameX ad ca) X dL_law_700 (ctL_round ec118) mf_L_round ms_L_round kl_L_147 rfl ⟨rfl, rfl⟩ ⟨Nat.le_of_ble_eq_true rfl, Nat.le_of_ble_eq_true rfl⟩ ⟨(by show _ ≤ 600000; omega), (by show _ ≤ 7302250; omega)⟩ rfl (Nat.le_of_ble_eq_true rfl) ?_
            refine b_if_ne (tgt := 708) C dL_law_703 (by decide) (fun c121 => ?_) (fun c121 => ?_)
            · have h122 := ineg h118 c121; clear h118
              exact b_widen (by omega) (by omega) (b_sub [3, 4, 5, 6, 7, 8] rfl (wL_law_708 hNN C X S hend hrf hce hsl hq182 _ _ _ _ _ h122))
            have h123 := ipos h118 c121; clear h118
            refine b_iconst (v := (0 : Int32)) C dL_law_706 (by decide) ?_
            obtain rfl := so1 h123
            exact b_lend hend (by omega) (by omega) dL_law_707 hrf
          have h117 := ipos h113 c115; clear h113
          refine b_iload C 10 dL_law_655 rfl ?_
          refine b_iload C 0 dL_law_657 rfl ?_
          refine b_iconst (v := (1 : Int32)) C dL_law_659 (by decide) ?_
          refine b_iadd C dL_law_660 ?_
          obtain ⟨r174, ec173, h173⟩ := bd0_inv h117; clear h117
          refine b_callSi (rest := []) C dL_law_661 (ctL_low ec173) mf_L_low ms_L_low kl_L_32 rfl ⟨rfl, rfl⟩ ⟨Nat.le_of_ble_eq_true rfl, Nat.le_of_ble_eq_true rfl⟩ ⟨(by show _ ≤ 600000; omega), (by show _ ≤ 7302250; omega)⟩ rfl (Nat.le_of_ble_eq_true rfl) ?_
          refine b_istore (lv' := [(13, .int r174), (12, .int r102), (11, .int r99), (10, .int x95), (0, .ref b), (1, .ref (ad 0)), (3, .int x89), (4, .int x90), (6, .int x91), (7, .int x92), (8, .int x93), (9, .int x94)]) C dL_law_664 (by decide) rfl ?_
          refine b_aload_n C 5 dL_law_666 rfl rfl ?_
          refine b_iload C 0 dL_law_667 rfl ?_
          obtain ⟨r177, σ176, ec175, h175⟩ := bd2_inv h173; clear h173
          refine b_callWi (rest := []) C (sameX ad ca) X dL_law_669 (ctX2_back ec175) mf_X2_back mi_X2_back kl_L_80 0 rfl rfl rfl rfl ⟨rfl, rfl⟩ ⟨Nat.le_of_ble_eq_true rfl, Nat.le_of_ble_eq_true rfl⟩ ⟨(by show _ ≤ 600000; omega), (by show _ ≤ 7302250; omega)⟩ rfl (Nat.le_of_ble_eq_true rfl) ?_
          refine b_iload C 1 dL_law_672 rfl ?_
          refine b_iload C 0 dL_law_674 rfl ?_
          refine b_isub C dL_law_676 ?_
          refine b_icmp_ne (tgt := 691) C dL_law_677 (by decide) (fun c178 => ?_) (fun c178 => ?_)
          · have h179 := ineg h175 c178; clear h175
            refine b_iconst (v := (0 : Int32)) C dL_law_691 (by decide) ?_
            obtain rfl := so1 h179
            exact b_lend hend (by omega) (by omega) dL_law_692 hrf
          have h180 := ipos h175 c178; clear h175
          refine b_aload_n C 5 dL_law_680 rfl rfl ?_
          refine b_iconst (v := (-1 : Int32)) C dL_law_681 (by decide) ?_
          obtain ⟨r183, σ182, ec181, h181⟩ := bd2_inv h180; clear h180
          refine b_callWi (rest := []) C (sameX ad ca) X dL_law_682 (ctX2_back ec181) mf_X2_back mi_X2_back kl_L_80 0 rfl rfl rfl rfl ⟨rfl, rfl⟩ ⟨Nat.le_of_ble_eq_true rfl, Nat.le_of_ble_eq_true rfl⟩ ⟨(by show _ ≤ 600000; omega), (by show _ ≤ 7302250; omega)⟩ rfl (Nat.le_of_ble_eq_true rfl) ?_
          refine b_sipush (v := (-1002 : Int32)) C dL_law_685 (by decide) ?_
          refine b_icmp_eq (tgt := 693) C dL_law_688 (by decide) (fun c184 => ?_) (fun c184 => ?_)
          · have h185 := ipos h181 c184; clear h181
            refine b_goto (tgt := 708) C dL_law_693 (by decide) ?_
            exact b_widen (by omega) (by omega) (b_sub [4, 5, 6, 7, 8, 9] rfl (wL_law_708 hNN C X S hend hrf hce hsl hq182 _ _ _ _ _ h185))
          have h186 := ineg h181 c184; clear h181
          refine b_iconst (v := (0 : Int32)) C dL_law_691 (by decide) ?_
          obtain rfl := so1 h186
          exact b_lend hend (by omega) (by omega) dL_law_692 hrf
        have h114 := ipos h110 c112; clear h110
        refine b_aload_n C 4 dL_law_635 rfl rfl ?_
        refine b_iload_n C 5 dL_law_636 rfl rfl ?_
        refine b_iload C 9 dL_law_637 rfl ?_
        refine b_iload C 10 dL_law_639 rfl ?_
        obtain ⟨r189, σ188, ec187, h187⟩ := bd2_inv h114; clear h114
        refine b_callSWi (rest := []) C (sameX ad ca) X dL_law_641 (ctL_foretells ec187) mf_L_foretells ms_L_foretells kl_L_143 rfl ⟨rfl, rfl⟩ ⟨Nat.le_of_ble_eq_true rfl, Nat.le_of_ble_eq_true rfl⟩ ⟨(by show _ ≤ 600000; omega), (by show _ ≤ 7302250; omega)⟩ rfl (Nat.le_of_ble_eq_true rfl) ?_
        refine b_if_ne (tgt := 708) C dL_law_644 (by decide) (fun c190 => ?_) (fun c190 => ?_)
        · have h191 := ineg h187 c190; clear h187
          exact b_widen (by omega) (by omega) (b_sub [3, 4, 5, 6, 7, 8] rfl (wL_law_708 hNN C X S hend hrf hce hsl hq182 _ _ _ _ _ h191))
        have h192 := ipos h187 c190; clear h187
        refine b_iconst (v := (0 : Int32)) C dL_law_647 (by decide) ?_
        obtain rfl := so1 h192
        exact b_lend hend (by omega) (by omega) dL_law_648 hrf
      have h111 := ipos h107 c109; clear h107
      refine b_iload C 9 dL_law_448 rfl ?_
      refine b_iconst (v := (4 : Int32)) C dL_law_450 (by decide) ?_
      refine b_ishr C dL_law_451 ?_
      refine b_iload_n C 5 dL_law_452 rfl rfl ?_
      obtain ⟨r194, ec193, h193⟩ := bd0_inv h111; clear h111
      refine b_callSi (rest := []) C dL_law_453 (ctL_low ec193) mf_L_low ms_L_low kl_L_32 rfl ⟨rfl, rfl⟩ ⟨Nat.le_of_ble_eq_true rfl, Nat.le_of_ble_eq_true rfl⟩ ⟨(by show _ ≤ 600000; omega), (by show _ ≤ 7302250; omega)⟩ rfl (Nat.le_of_ble_eq_true rfl) ?_
      refine b_istore (lv' := [(13, .int r194), (12, .int r102), (11, .int r99), (10, .int x95), (0, .ref b), (1, .ref (ad 0)), (3, .int x89), (4, .int x90), (6, .int x91), (7, .int x92), (8, .int x93), (9, .int x94)]) C dL_law_456 (by decide) rfl ?_
      refine b_aload_n C 5 dL_law_458 rfl rfl ?_
      refine b_bipush (v := (6 : Int32)) C dL_law_459 (by decide) ?_
      obtain ⟨r197, σ196, ec195, h195⟩ := bd2_inv h193; clear h193
      refine b_callWi (rest := []) C (sameX ad ca) X dL_law_461 (ctX2_count ec195) mf_X2_count mi_X2_count kl_L_40 0 rfl rfl rfl rfl ⟨rfl, rfl⟩ ⟨Nat.le_of_ble_eq_true rfl, Nat.le_of_ble_eq_true rfl⟩ ⟨(by show _ ≤ 600000; omega), (by show _ ≤ 7302250; omega)⟩ rfl (Nat.le_of_ble_eq_true rfl) ?_
      refine b_istore (lv' := [(14, .int r197), (13, .int r194), (12, .int r102), (11, .int r99), (10, .int x95), (0, .ref b), (1, .ref (ad 0)), (3, .int x89), (4, .int x90), (6, .int x91), (7, .int x92), (8, .int x93), (9, .int x94)]) C dL_law_464 (by decide) rfl ?_
      refine b_iload C 12 dL_law_466 rfl ?_
      refine b_bipush (v := (9 : Int32)) C dL_law_468 (by decide) ?_
      obtain ⟨r199, ec198, h198⟩ := bd0_inv h195; clear h195
      refine b_callSi (rest := []) C dL_law_470 (ctL_low ec198) mf_L_low ms_L_low kl_L_32 rfl ⟨rfl, rfl⟩ ⟨Nat.le_of_ble_eq_true rfl, Nat.le_of_ble_eq_true rfl⟩ ⟨(by show _ ≤ 600000; omega), (by show _ ≤ 7302250; omega)⟩ rfl (Nat.le_of_ble_eq_true rfl) ?_
      refine b_iconst (v := (4 : Int32)) C dL_law_473 (by decide) ?_
      refine b_icmp_ge (tgt := 481) C dL_law_474 (by decide) (fun c200 => ?_) (fun c200 => ?_)
      · have h201 := ipos h198 c200; clear h198
        refine b_iload C 12 dL_law_481 rfl ?_
        refine b_iconst (v := (4 : Int32)) C dL_law_483 (by decide) ?_
        refine b_ishr C dL_law_484 ?_
        refine b_iconst (v := (5 : Int32)) C dL_law_485 (by decide) ?_
        obtain ⟨r204, ec203, h203⟩ := bd0_inv h201; clear h201
        refine b_callSi (rest := []) C dL_law_486 (ctL_low ec203) mf_L_low ms_L_low kl_L_32 rfl ⟨rfl, rfl⟩ ⟨Nat.le_of_ble_eq_true rfl, Nat.le_of_ble_eq_true rfl⟩ ⟨(by show _ ≤ 600000; omega), (by show _ ≤ 7302250; omega)⟩ rfl (Nat.le_of_ble_eq_true rfl) ?_
        refine b_iconst (v := (1 : Int32)) C dL_law_489 (by decide) ?_
        refine b_isub C dL_law_490 ?_
        exact b_widen (by omega) (by omega) (b_sub [5, 6, 7, 8, 9, 10, 12, 3, 1, 0] rfl (wL_law_491 hNN C X S hend hrf hce hsl hq182 _ _ _ _ _ _ _ _ _ _ h203))
      have h202 := ineg h198 c200; clear h198
      refine b_iconst (v := (0 : Int32)) C dL_law_477 (by decide) ?_
      refine b_goto (tgt := 491) C dL_law_478 (by decide) ?_
      exact b_widen (by omega) (by omega) (b_sub [5, 6, 7, 8, 9, 10, 12, 3, 1, 0] rfl (wL_law_491 hNN C X S hend hrf hce hsl hq182 _ _ _ _ _ _ _ _ _ _ h202))
    have h108 := ipos h104 c106; clear h104
    refine b_aload_n C 4 dL_law_295 rfl rfl ?_
    refine b_iload C 1 dL_law_296 rfl ?_
    obtain ⟨r304, σ303, ec302, h302⟩ := bd2_inv h108; clear h108
    refine b_callWi (rest := []) C (sameX ad ca) X dL_law_298 (ctX2_strategy ec302) mf_X2_strategy mi_X2_strategy kl_L_58 0 rfl rfl rfl rfl ⟨rfl, rfl⟩ ⟨Nat.le_of_ble_eq_true rfl, Nat.le_of_ble_eq_true rfl⟩ ⟨(by show _ ≤ 600000; omega), (by show _ ≤ 7302250; omega)⟩ rfl (Nat.le_of_ble_eq_true rfl) ?_
    refine b_istore (lv' := [(13, .int r304), (12, .int r102), (11, .int r99), (10, .int x95), (0, .ref b), (1, .ref (ad 0)), (3, .int x89), (4, .int x90), (6, .int x91), (7, .int x92), (8, .int x93), (9, .int x94)]) C dL_law_301 (by decide) rfl ?_
    refine b_iload C 11 dL_law_303 rfl ?_
    refine b_iconst (v := (1 : Int32)) C dL_law_305 (by decide) ?_
    refine b_iand C dL_law_306 ?_
    refine b_if_eq (tgt := 317) C dL_law_307 (by decide) (fun c305 => ?_) (fun c305 => ?_)
    · have h306 := ipos h302 c305; clear h302
      exact b_widen (by omega) (by omega) (b_sub [4, 5, 6, 7, 8, 9, 10, 11, 2, 1, 0] rfl (wL_law_317 hNN C X S hend hrf hce hsl hq182 _ _ _ _ _ _ _ _ _ _ h306))
    have h307 := ineg h302 c305; clear h302
    refine b_iload C 8 dL_law_310 rfl ?_
    refine b_ldc (v := (720720 : Int32)) C dL_law_312 kc_L_125 ?_
    refine b_icmp_ne (tgt := 321) C dL_law_314 (by decide) (fun c397 => ?_) (fun c397 => ?_)
    · have h398 := ineg h307 c397; clear h307
      refine b_iload C 8 dL_law_321 rfl ?_
      exact b_widen (by omega) (by omega) (b_sub [4, 5, 6, 7, 8, 9, 10, 11, 2, 1, 0] rfl (wL_law_323 hNN C X S hend hrf hce hsl hq182 _ _ _ _ _ _ _ _ _ _ _ h398))
    have h399 := ipos h307 c397; clear h307
    exact b_widen (by omega) (by omega) (b_sub [4, 5, 6, 7, 8, 9, 10, 11, 2, 1, 0] rfl (wL_law_317 hNN C X S hend hrf hce hsl hq182 _ _ _ _ _ _ _ _ _ _ h399))
  have h105 := ineg h100 c103; clear h100
  refine b_aload_n C 4 dL_law_256 rfl rfl ?_
  refine b_iload_n C 5 dL_law_257 rfl rfl ?_
  refine b_iload C 7 dL_law_258 rfl ?_
  refine b_iload C 8 dL_law_260 rfl ?_
  refine b_iload_n C 5 dL_law_262 rfl rfl ?_
  refine b_icmp_ge (tgt := 277) C dL_law_263 (by decide) (fun c400 => ?_) (fun c400 => ?_)
  · have h401 := ipos h105 c400; clear h105
    refine b_iload C 9 dL_law_277 rfl ?_
    exact b_widen (by omega) (by omega) (b_sub [3, 4, 5, 6, 7, 8, 10] rfl (wL_law_279 hNN C X S hend hrf hce hsl hq182 _ _ _ _ _ _ _ _ _ h401))
  have h402 := ineg h105 c400; clear h105
  refine b_iload C 9 dL_law_266 rfl ?_
  refine b_bipush (v := (-16 : Int32)) C dL_law_268 (by decide) ?_
  refine b_iand C dL_law_270 ?_
  refine b_iload C 8 dL_law_271 rfl ?_
  refine b_ior C dL_law_273 ?_
  refine b_goto (tgt := 279) C dL_law_274 (by decide) ?_
  exact b_widen (by omega) (by omega) (b_sub [3, 4, 5, 6, 7, 8, 10] rfl (wL_law_279 hNN C X S hend hrf hce hsl hq182 _ _ _ _ _ _ _ _ _ h402))
theorem wL_law_182 {l : Launch} {p : Program} {e : Env} {s : State} {m : MethodId} {below : List Frame} {meth : Method} {c : Code} {D : va_G} {ad : Nat → Nat} {ca : Nat → ClassId} {b L N : Nat} {xs : Nat → Int32} {rf : Int32} (hNN : N ≤ 5000) (C : Cb p s m #[.ref b] meth c RL cL_law 18) (X : Cx s D (fun q : Nat => s.heap.size ≤ q) (wX ad ca) (tyX ca)) (S : Sc s (fun q : Nat => s.heap.size ≤ q) b L xs) (hend : lw_end l p e s m below meth c b) (hrf : rf = 1)  {q798 : St → Option Int32} (hq798 : ∀ (σ : St), q798 σ = some rf → bW p l e room_1 s m #[.ref b] below meth c 600000 7302250 (lw_Z below #[.ref b] s) 18 (wd D (fun q : Nat => s.heap.size ≤ q) (wX ad ca) s σ) 798 [(1, .ref (ad 0))] []) : ∀ n : Nat, ∀ (σ : St) (y0 : Int32) (y1 : Int32) (y2 : Int32) (y3 : Int32), fL_law_182 N L xs q798 n σ y0 y1 y2 y3 = some rf → ∀ ce sl : Nat, ce + n ≤ 600000 → sl + 20 * n ≤ 7302250 → bW p l e room_1 s m #[.ref b] below meth c ce sl (lw_Z below #[.ref b] s) 18 (wd D (fun q : Nat => s.heap.size ≤ q) (wX ad ca) s σ) 182 [(0, .ref b), (1, .ref (ad 0)), (3, .int y0), (4, .int y1), (6, .int y2), (7, .int y3)] [] := by
  intro n
  induction n with
  | zero => intro σ75 x71 x72 x73 x74 h76 ce sl hce0 hsl0; exact nn h76
  | succ n ihq =>
    intro σ75 x71 x72 x73 x74 h76 ce sl hce0 hsl0
    have hq182 : ∀ (σ : St) (y0 : Int32) (y1 : Int32) (y2 : Int32) (y3 : Int32), fL_law_182 N L xs q798 n σ y0 y1 y2 y3 = some rf → bW p l e room_1 s m #[.ref b] below meth c (ce + 1) (sl + 20) (lw_Z below #[.ref b] s) 18 (wd D (fun q : Nat => s.heap.size ≤ q) (wX ad ca) s σ) 182 [(0, .ref b), (1, .ref (ad 0)), (3, .int y0), (4, .int y1), (6, .int y2), (7, .int y3)] [] := fun σ z0 z1 z2 z3 h9 => ihq σ z0 z1 z2 z3 h9 (ce + 1) (sl + 20) (by omega) (by omega)
    have hce : ce + 1 ≤ 600000 := by omega
    have hsl : sl + 20 ≤ 7302250 := by omega
    replace h76 : fL_law_182b N L xs q798 (fL_law_182 N L xs q798 n) σ75 x71 x72 x73 x74 = some rf := h76
    refine b_iload C 5 dL_law_182 rfl ?_
    refine b_bipush (v := (40 : Int32)) C dL_law_184 (by decide) ?_
    refine b_icmp_ge (tgt := 798) C dL_law_186 (by decide) (fun c77 => ?_) (fun c77 => ?_)
    · have h78 := ipos h76 c77; clear h76
      exact b_widen (by omega) (by omega) (b_sub [1] rfl (hq798 _ h78))
    have h79 := ineg h76 c77; clear h76
    refine b_aload_n C 0 dL_law_189 rfl rfl ?_
    refine b_iconst (v := (1 : Int32)) C dL_law_190 (by decide) ?_
    refine b_iconst (v := (2 : Int32)) C dL_law_191 (by decide) ?_
    refine b_iload C 5 dL_law_192 rfl ?_
    refine b_imul C dL_law_194 ?_
    refine b_iadd C dL_law_195 ?_
    obtain ⟨r80, ec81, h81⟩ := bd0_inv h79; clear h79
    refine b_cell (rest := []) C S dL_law_196 ec81 kl_L_121 ⟨Nat.le_of_ble_eq_true rfl, Nat.le_of_ble_eq_true rfl⟩ ⟨(by show _ ≤ 600000; omega), (by show _ ≤ 7302250; omega)⟩ rfl (Nat.le_of_ble_eq_true rfl) ?_
    refine b_istore (lv' := [(8, .int r80), (0, .ref b), (1, .ref (ad 0)), (3, .int x71), (4, .int x72), (6, .int x73), (7, .int x74)]) C dL_law_199 (by decide) rfl ?_
    refine b_aload_n C 1 dL_law_201 rfl rfl ?_
    refine b_iconst (v := (2 : Int32)) C dL_law_202 (by decide) ?_
    refine b_iconst (v := (2 : Int32)) C dL_law_203 (by decide) ?_
    refine b_iload C 6 dL_law_204 rfl ?_
    refine b_imul C dL_law_206 ?_
    refine b_iadd C dL_law_207 ?_
    obtain ⟨r82, ec83, h83⟩ := bd0_inv h81; clear h81
    refine b_cell (rest := []) C S dL_law_208 ec83 kl_L_121 ⟨Nat.le_of_ble_eq_true rfl, Nat.le_of_ble_eq_true rfl⟩ ⟨(by show _ ≤ 600000; omega), (by show _ ≤ 7302250; omega)⟩ rfl (Nat.le_of_ble_eq_true rfl) ?_
    refine b_istore (lv' := [(9, .int r82), (8, .int r80), (0, .ref b), (1, .ref (ad 0)), (3, .int x71), (4, .int x72), (6, .int x73), (7, .int x74)]) C dL_law_211 (by decide) rfl ?_
    refine b_iload C 7 dL_law_213 rfl ?_
    refine b_iload_n C 4 dL_law_215 rfl rfl ?_
    refine b_icmp_ge (tgt := 223) C dL_law_216 (by decide) (fun c84 => ?_) (fun c84 => ?_)
    · have h85 := ipos h83 c84; clear h83
      refine b_iload C 1 dL_law_223 rfl ?_
      refine b_bipush (v := (20 : Int32)) C dL_law_225 (by decide) ?_
      refine b_ishr C dL_law_227 ?_
      refine b_bipush (v := (10 : Int32)) C dL_law_228 (by decide) ?_
      obtain ⟨r88, ec87, h87⟩ := bd0_inv h85; clear h85
      refine b_callSi (rest := []) C dL_law_230 (ctL_low ec87) mf_L_low ms_L_low kl_L_32 rfl ⟨rfl, rfl⟩ ⟨Nat.le_of_ble_eq_true rfl, Nat.le_of_ble_eq_true rfl⟩ ⟨(by show _ ≤ 600000; omega), (by show _ ≤ 7302250; omega)⟩ rfl (Nat.le_of_ble_eq_true rfl) ?_
      exact b_widen (by omega) (by omega) (b_sub [2, 3, 4, 5, 6, 7, 1, 0] rfl (wL_law_233 hNN C X S hend hrf hce hsl hq182 _ _ _ _ _ _ _ _ h87))
    have h86 := ineg h83 c84; clear h83
    refine b_iconst (v := (0 : Int32)) C dL_law_219 (by decide) ?_
    refine b_goto (tgt := 233) C dL_law_220 (by decide) ?_
    exact b_widen (by omega) (by omega) (b_sub [2, 3, 4, 5, 6, 7, 1, 0] rfl (wL_law_233 hNN C X S hend hrf hce hsl hq182 _ _ _ _ _ _ _ _ h86))
theorem wL_law_87 {l : Launch} {p : Program} {e : Env} {s : State} {m : MethodId} {below : List Frame} {meth : Method} {c : Code} {D : va_G} {ad : Nat → Nat} {ca : Nat → ClassId} {b L N : Nat} {xs : Nat → Int32} {rf : Int32} (hNN : N ≤ 5000) (C : Cb p s m #[.ref b] meth c RL cL_law 18) (X : Cx s D (fun q : Nat => s.heap.size ≤ q) (wX ad ca) (tyX ca)) (S : Sc s (fun q : Nat => s.heap.size ≤ q) b L xs) (hend : lw_end l p e s m below meth c b) (hrf : rf = 1)  {ce sl : Nat} (hce : ce ≤ 590000) (hsl : sl ≤ 7200000) : ∀ (σ : St) (y0 : Int32) (y1 : Int32) (y2 : Int32), fL_law_87 N L xs σ y0 y1 y2 = some rf → bW p l e room_1 s m #[.ref b] below meth c ce sl (lw_Z below #[.ref b] s) 18 (wd D (fun q : Nat => s.heap.size ≤ q) (wX ad ca) s σ) 87 [(0, .ref b), (1, .ref (ad 0)), (3, .int y0), (4, .int y1)] [.int y2] := by
  intro σ27 x24 x25 x26 h28
  refine b_istore (lv' := [(6, .int x26), (0, .ref b), (1, .ref (ad 0)), (3, .int x24), (4, .int x25)]) C dL_law_87 (by decide) rfl ?_
  refine b_aload_n C 2 dL_law_89 rfl rfl ?_
  refine b_iload_n C 3 dL_law_90 rfl rfl ?_
  refine b_iload C 4 dL_law_91 rfl ?_
  refine b_iload C 0 dL_law_93 rfl ?_
  obtain ⟨r31, σ30, ec29, h29⟩ := bd2_inv h28; clear h28
  refine b_callWi (rest := []) C (sameX ad ca) X dL_law_95 (ctX2_reset ec29) mf_X2_reset mi_X2_reset kl_L_126 0 rfl rfl rfl rfl ⟨rfl, rfl⟩ ⟨Nat.le_of_ble_eq_true rfl, Nat.le_of_ble_eq_true rfl⟩ ⟨(by show _ ≤ 600000; omega), (by show _ ≤ 7302250; omega)⟩ rfl (Nat.le_of_ble_eq_true rfl) ?_
  refine b_iconst (v := (4 : Int32)) C dL_law_98 (by decide) ?_
  refine b_icmp_ne (tgt := 177) C dL_law_99 (by decide) (fun c32 => ?_) (fun c32 => ?_)
  · have h33 := ineg h29 c32; clear h29
    refine b_iconst (v := (0 : Int32)) C dL_law_177 (by decide) ?_
    obtain rfl := so1 h33
    exact b_lend hend (by omega) (by omega) dL_law_178 hrf
  have h34 := ipos h29 c32; clear h29
  refine b_aload_n C 2 dL_law_102 rfl rfl ?_
  refine b_bipush (v := (11 : Int32)) C dL_law_103 (by decide) ?_
  refine b_iconst (v := (0 : Int32)) C dL_law_105 (by decide) ?_
  refine b_iconst (v := (1 : Int32)) C dL_law_106 (by decide) ?_
  obtain ⟨r37, σ36, ec35, h35⟩ := bd2_inv h34; clear h34
  refine b_callWi (rest := []) C (sameX ad ca) X dL_law_107 (ctX2_reset ec35) mf_X2_reset mi_X2_reset kl_L_126 0 rfl rfl rfl rfl ⟨rfl, rfl⟩ ⟨Nat.le_of_ble_eq_true rfl, Nat.le_of_ble_eq_true rfl⟩ ⟨(by show _ ≤ 600000; omega), (by show _ ≤ 7302250; omega)⟩ rfl (Nat.le_of_ble_eq_true rfl) ?_
  refine b_sipush (v := (-1002 : Int32)) C dL_law_110 (by decide) ?_
  refine b_icmp_ne (tgt := 177) C dL_law_113 (by decide) (fun c38 => ?_) (fun c38 => ?_)
  · have h39 := ineg h35 c38; clear h35
    refine b_iconst (v := (0 : Int32)) C dL_law_177 (by decide) ?_
    obtain rfl := so1 h39
    exact b_lend hend (by omega) (by omega) dL_law_178 hrf
  have h40 := ipos h35 c38; clear h35
  refine b_aload_n C 2 dL_law_116 rfl rfl ?_
  refine b_iconst (v := (2 : Int32)) C dL_law_117 (by decide) ?_
  refine b_iconst (v := (4 : Int32)) C dL_law_118 (by decide) ?_
  refine b_iconst (v := (1 : Int32)) C dL_law_119 (by decide) ?_
  obtain ⟨r43, σ42, ec41, h41⟩ := bd2_inv h40; clear h40
  refine b_callWi (rest := []) C (sameX ad ca) X dL_law_120 (ctX2_reset ec41) mf_X2_reset mi_X2_reset kl_L_126 0 rfl rfl rfl rfl ⟨rfl, rfl⟩ ⟨Nat.le_of_ble_eq_true rfl, Nat.le_of_ble_eq_true rfl⟩ ⟨(by show _ ≤ 600000; omega), (by show _ ≤ 7302250; omega)⟩ rfl (Nat.le_of_ble_eq_true rfl) ?_
  refine b_sipush (v := (-1002 : Int32)) C dL_law_123 (by decide) ?_
  refine b_icmp_ne (tgt := 177) C dL_law_126 (by decide) (fun c44 => ?_) (fun c44 => ?_)
  · have h45 := ineg h41 c44; clear h41
    refine b_iconst (v := (0 : Int32)) C dL_law_177 (by decide) ?_
    obtain rfl := so1 h45
    exact b_lend hend (by omega) (by omega) dL_law_178 hrf
  have h46 := ipos h41 c44; clear h41
  refine b_aload_n C 2 dL_law_129 rfl rfl ?_
  refine b_iconst (v := (2 : Int32)) C dL_law_130 (by decide) ?_
  refine b_iconst (v := (0 : Int32)) C dL_law_131 (by decide) ?_
  refine b_iconst (v := (0 : Int32)) C dL_law_132 (by decide) ?_
  obtain ⟨r49, σ48, ec47, h47⟩ := bd2_inv h46; clear h46
  refine b_callWi (rest := []) C (sameX ad ca) X dL_law_133 (ctX2_reset ec47) mf_X2_reset mi_X2_reset kl_L_126 0 rfl rfl rfl rfl ⟨rfl, rfl⟩ ⟨Nat.le_of_ble_eq_true rfl, Nat.le_of_ble_eq_true rfl⟩ ⟨(by show _ ≤ 600000; omega), (by show _ ≤ 7302250; omega)⟩ rfl (Nat.le_of_ble_eq_true rfl) ?_
  refine b_sipush (v := (-1002 : Int32)) C dL_law_136 (by decide) ?_
  refine b_icmp_ne (tgt := 177) C dL_law_139 (by decide) (fun c50 => ?_) (fun c50 => ?_)
  · have h51 := ineg h47 c50; clear h47
    refine b_iconst (v := (0 : Int32)) C dL_law_177 (by decide) ?_
    obtain rfl := so1 h51
    exact b_lend hend (by omega) (by omega) dL_law_178 hrf
  have h52 := ipos h47 c50; clear h47
  refine b_aload_n C 2 dL_law_142 rfl rfl ?_
  refine b_iconst (v := (0 : Int32)) C dL_law_143 (by decide) ?_
  obtain ⟨r55, σ54, ec53, h53⟩ := bd2_inv h52; clear h52
  refine b_callWi (rest := []) C (sameX ad ca) X dL_law_144 (ctX2_count ec53) mf_X2_count mi_X2_count kl_L_40 0 rfl rfl rfl rfl ⟨rfl, rfl⟩ ⟨Nat.le_of_ble_eq_true rfl, Nat.le_of_ble_eq_true rfl⟩ ⟨(by show _ ≤ 600000; omega), (by show _ ≤ 7302250; omega)⟩ rfl (Nat.le_of_ble_eq_true rfl) ?_
  refine b_iload_n C 3 dL_law_147 rfl rfl ?_
  refine b_icmp_ne (tgt := 177) C dL_law_148 (by decide) (fun c56 => ?_) (fun c56 => ?_)
  · have h57 := ineg h53 c56; clear h53
    refine b_iconst (v := (0 : Int32)) C dL_law_177 (by decide) ?_
    obtain rfl := so1 h57
    exact b_lend hend (by omega) (by omega) dL_law_178 hrf
  have h58 := ipos h53 c56; clear h53
  refine b_aload_n C 2 dL_law_151 rfl rfl ?_
  refine b_bipush (v := (6 : Int32)) C dL_law_152 (by decide) ?_
  obtain ⟨r61, σ60, ec59, h59⟩ := bd2_inv h58; clear h58
  refine b_callWi (rest := []) C (sameX ad ca) X dL_law_154 (ctX2_count ec59) mf_X2_count mi_X2_count kl_L_40 0 rfl rfl rfl rfl ⟨rfl, rfl⟩ ⟨Nat.le_of_ble_eq_true rfl, Nat.le_of_ble_eq_true rfl⟩ ⟨(by show _ ≤ 600000; omega), (by show _ ≤ 7302250; omega)⟩ rfl (Nat.le_of_ble_eq_true rfl) ?_
  refine b_iload_n C 3 dL_law_157 rfl rfl ?_
  refine b_iload_n C 3 dL_law_158 rfl rfl ?_
  refine b_imul C dL_law_159 ?_
  refine b_iload_n C 3 dL_law_160 rfl rfl ?_
  refine b_isub C dL_law_161 ?_
  refine b_icmp_ne (tgt := 177) C dL_law_162 (by decide) (fun c62 => ?_) (fun c62 => ?_)
  · have h63 := ineg h59 c62; clear h59
    refine b_iconst (v := (0 : Int32)) C dL_law_177 (by decide) ?_
    obtain rfl := so1 h63
    exact b_lend hend (by omega) (by omega) dL_law_178 hrf
  have h64 := ipos h59 c62; clear h59
  refine b_aload_n C 2 dL_law_165 rfl rfl ?_
  refine b_bipush (v := (8 : Int32)) C dL_law_166 (by decide) ?_
  obtain ⟨r67, σ66, ec65, h65⟩ := bd2_inv h64; clear h64
  refine b_callWi (rest := []) C (sameX ad ca) X dL_law_168 (ctX2_count ec65) mf_X2_count mi_X2_count kl_L_40 0 rfl rfl rfl rfl ⟨rfl, rfl⟩ ⟨Nat.le_of_ble_eq_true rfl, Nat.le_of_ble_eq_true rfl⟩ ⟨(by show _ ≤ 600000; omega), (by show _ ≤ 7302250; omega)⟩ rfl (Nat.le_of_ble_eq_true rfl) ?_
  refine b_sipush (v := (-1002 : Int32)) C dL_law_171 (by decide) ?_
  refine b_icmp_eq (tgt := 179) C dL_law_174 (by decide) (fun c68 => ?_) (fun c68 => ?_)
  · have h69 := ipos h65 c68; clear h65
    refine b_iconst (v := (0 : Int32)) C dL_law_179 (by decide) ?_
    refine b_istore (lv' := [(7, .int (0 : Int32)), (6, .int x26), (0, .ref b), (1, .ref (ad 0)), (3, .int x24), (4, .int x25)]) C dL_law_180 (by decide) rfl ?_
    refine b_widen (by omega) (by omega) (b_sub [2, 3, 4, 5, 1, 0] rfl (wL_law_182 hNN C X S hend hrf (fun σ419 h420 => ?_) _ _ _ _ _ _ h69 590000 7200000 (by omega) (by omega)))
    refine b_aload_n C 0 dL_law_798 rfl rfl ?_
    refine b_iconst (v := (2 : Int32)) C dL_law_799 (by decide) ?_
    obtain ⟨r423, σ422, ec421, h421⟩ := bd2_inv h420; clear h420
    refine b_callWi (rest := []) C (sameX ad ca) X dL_law_800 (ctX2_mostFrequent ec421) mf_X2_mostFrequent mi_X2_mostFrequent kl_L_151 0 rfl rfl rfl rfl ⟨rfl, rfl⟩ ⟨Nat.le_of_ble_eq_true rfl, Nat.le_of_ble_eq_true rfl⟩ ⟨(by show _ ≤ 600000; omega), (by show _ ≤ 7302250; omega)⟩ rfl (Nat.le_of_ble_eq_true rfl) ?_
    refine b_sipush (v := (-1002 : Int32)) C dL_law_803 (by decide) ?_
    refine b_icmp_ne (tgt := 847) C dL_law_806 (by decide) (fun c424 => ?_) (fun c424 => ?_)
    · have h425 := ineg h421 c424; clear h421
      refine b_iconst (v := (0 : Int32)) C dL_law_847 (by decide) ?_
      obtain rfl := so1 h425
      exact b_lend hend (by omega) (by omega) dL_law_848 hrf
    have h426 := ipos h421 c424; clear h421
    refine b_aload_n C 0 dL_law_809 rfl rfl ?_
    refine b_iconst (v := (-1 : Int32)) C dL_law_810 (by decide) ?_
    obtain ⟨r429, σ428, ec427, h427⟩ := bd2_inv h426; clear h426
    refine b_callWi (rest := []) C (sameX ad ca) X dL_law_811 (ctX2_strategy ec427) mf_X2_strategy mi_X2_strategy kl_L_58 0 rfl rfl rfl rfl ⟨rfl, rfl⟩ ⟨Nat.le_of_ble_eq_true rfl, Nat.le_of_ble_eq_true rfl⟩ ⟨(by show _ ≤ 600000; omega), (by show _ ≤ 7302250; omega)⟩ rfl (Nat.le_of_ble_eq_true rfl) ?_
    refine b_sipush (v := (-1001 : Int32)) C dL_law_814 (by decide) ?_
    refine b_icmp_ne (tgt := 847) C dL_law_817 (by decide) (fun c430 => ?_) (fun c430 => ?_)
    · have h431 := ineg h427 c430; clear h427
      refine b_iconst (v := (0 : Int32)) C dL_law_847 (by decide) ?_
      obtain rfl := so1 h431
      exact b_lend hend (by omega) (by omega) dL_law_848 hrf
    have h432 := ipos h427 c430; clear h427
    refine b_aload_n C 0 dL_law_820 rfl rfl ?_
    refine b_iconst (v := (0 : Int32)) C dL_law_821 (by decide) ?_
    obtain ⟨r435, σ434, ec433, h433⟩ := bd2_inv h432; clear h432
    refine b_callWi (rest := []) C (sameX ad ca) X dL_law_822 (ctX2_run ec433) mf_X2_run mi_X2_run kl_L_77 0 rfl rfl rfl rfl ⟨rfl, rfl⟩ ⟨Nat.le_of_ble_eq_true rfl, Nat.le_of_ble_eq_true rfl⟩ ⟨(by show _ ≤ 600000; omega), (by show _ ≤ 7302250; omega)⟩ rfl (Nat.le_of_ble_eq_true rfl) ?_
    refine b_sipush (v := (-1002 : Int32)) C dL_law_825 (by decide) ?_
    refine b_icmp_ne (tgt := 847) C dL_law_828 (by decide) (fun c436 => ?_) (fun c436 => ?_)
    · have h437 := ineg h433 c436; clear h433
      refine b_iconst (v := (0 : Int32)) C dL_law_847 (by decide) ?_
      obtain rfl := so1 h437
      exact b_lend hend (by omega) (by omega) dL_law_848 hrf
    have h438 := ipos h433 c436; clear h433
    refine b_aload_n C 0 dL_law_831 rfl rfl ?_
    refine b_bipush (v := (61 : Int32)) C dL_law_832 (by decide) ?_
    obtain ⟨r441, σ440, ec439, h439⟩ := bd2_inv h438; clear h438
    refine b_callWi (rest := []) C (sameX ad ca) X dL_law_834 (ctX2_run ec439) mf_X2_run mi_X2_run kl_L_77 0 rfl rfl rfl rfl ⟨rfl, rfl⟩ ⟨Nat.le_of_ble_eq_true rfl, Nat.le_of_ble_eq_true rfl⟩ ⟨(by show _ ≤ 600000; omega), (by show _ ≤ 7302250; omega)⟩ rfl (Nat.le_of_ble_eq_true rfl) ?_
    refine b_sipush (v := (-1002 : Int32)) C dL_law_837 (by decide) ?_
    refine b_icmp_ne (tgt := 847) C dL_law_840 (by decide) (fun c442 => ?_) (fun c442 => ?_)
    · have h443 := ineg h439 c442; clear h439
      refine b_iconst (v := (0 : Int32)) C dL_law_847 (by decide) ?_
      obtain rfl := so1 h443
      exact b_lend hend (by omega) (by omega) dL_law_848 hrf
    have h444 := ipos h439 c442; clear h439
    refine b_iconst (v := (1 : Int32)) C dL_law_843 (by decide) ?_
    refine b_goto (tgt := 848) C dL_law_844 (by decide) ?_
    obtain rfl := so1 h444
    exact b_lend hend (by omega) (by omega) dL_law_848 hrf
  have h70 := ineg h65 c68; clear h65
  refine b_iconst (v := (0 : Int32)) C dL_law_177 (by decide) ?_
  obtain rfl := so1 h70
  exact b_lend hend (by omega) (by omega) dL_law_178 hrf
theorem wL_law {l : Launch} {p : Program} {e : Env} {s : State} {m : MethodId} {below : List Frame} {meth : Method} {c : Code} {D : va_G} {ad : Nat → Nat} {ca : Nat → ClassId} {b L N : Nat} {xs : Nat → Int32} {rf : Int32} (hNN : N ≤ 5000) (C : Cb p s m #[.ref b] meth c RL cL_law 18) (X : Cx s D (fun q : Nat => s.heap.size ≤ q) (wX ad ca) (tyX ca)) (S : Sc s (fun q : Nat => s.heap.size ≤ q) b L xs) (hend : lw_end l p e s m below meth c b) (hrf : rf = 1) {σ : St} {ce sl : Nat} (hce : ce ≤ 590000) (hsl : sl ≤ 7200000) (h : fL_law N L xs σ = some rf) : bW p l e room_1 s m #[.ref b] below meth c ce sl (lw_Z below #[.ref b] s) 18 (wd D (fun q : Nat => s.heap.size ≤ q) (wX ad ca) s σ) 8 [(1, .ref (ad 0)), (0, .ref b)] [] := by
  have h1 := h; clear h
  refine b_aload_n C 1 dL_law_8 rfl rfl ?_
  refine b_iconst (v := (0 : Int32)) C dL_law_9 (by decide) ?_
  obtain ⟨r2, ec3, h3⟩ := bd0_inv h1; clear h1
  refine b_cell (rest := []) C S dL_law_10 ec3 kl_L_121 ⟨Nat.le_of_ble_eq_true rfl, Nat.le_of_ble_eq_true rfl⟩ ⟨(by show _ ≤ 600000; omega), (by show _ ≤ 7302250; omega)⟩ rfl (Nat.le_of_ble_eq_true rfl) ?_
  refine b_istore_n (lv' := [(2, .int r2), (1, .ref (ad 0)), (0, .ref b)]) C dL_law_13 rfl (by decide) rfl ?_
  refine b_iconst (v := (2 : Int32)) C dL_law_14 (by decide) ?_
  refine b_iload_n C 0 dL_law_15 rfl rfl ?_
  refine b_bipush (v := (9 : Int32)) C dL_law_16 (by decide) ?_
  obtain ⟨r5, ec4, h4⟩ := bd0_inv h3; clear h3
  refine b_callSi (rest := [.int (2 : Int32)]) C dL_law_18 (ctL_low ec4) mf_L_low ms_L_low kl_L_32 rfl ⟨rfl, rfl⟩ ⟨Nat.le_of_ble_eq_true rfl, Nat.le_of_ble_eq_true rfl⟩ ⟨(by show _ ≤ 600000; omega), (by show _ ≤ 7302250; omega)⟩ rfl (Nat.le_of_ble_eq_true rfl) ?_
  refine b_iadd C dL_law_21 ?_
  obtain ⟨x6, ex6, h7⟩ := lt1_inv h4; clear h4
  refine b_nmI ex6 ?_
  refine b_istore_n (lv' := [(3, .int x6), (2, .int r2), (1, .ref (ad 0)), (0, .ref b)]) C dL_law_22 rfl (by decide) rfl ?_
  refine b_iload_n C 1 dL_law_23 rfl rfl ?_
  refine b_iconst (v := (5 : Int32)) C dL_law_24 (by decide) ?_
  refine b_ishr C dL_law_25 ?_
  refine b_iconst (v := (4 : Int32)) C dL_law_26 (by decide) ?_
  obtain ⟨r9, ec8, h8⟩ := bd0_inv h7; clear h7
  refine b_callSi (rest := []) C dL_law_27 (ctL_low ec8) mf_L_low ms_L_low kl_L_32 rfl ⟨rfl, rfl⟩ ⟨Nat.le_of_ble_eq_true rfl, Nat.le_of_ble_eq_true rfl⟩ ⟨(by show _ ≤ 600000; omega), (by show _ ≤ 7302250; omega)⟩ rfl (Nat.le_of_ble_eq_true rfl) ?_
  refine b_istore (lv' := [(4, .int r9), (3, .int x6), (2, .int r2), (1, .ref (ad 0)), (0, .ref b)]) C dL_law_30 (by decide) rfl ?_
  refine b_iload_n C 2 dL_law_32 rfl rfl ?_
  refine b_bipush (v := (9 : Int32)) C dL_law_33 (by decide) ?_
  refine b_ishr C dL_law_35 ?_
  refine b_iconst (v := (5 : Int32)) C dL_law_36 (by decide) ?_
  obtain ⟨r11, ec10, h10⟩ := bd0_inv h8; clear h8
  refine b_callSi (rest := []) C dL_law_37 (ctL_low ec10) mf_L_low ms_L_low kl_L_32 rfl ⟨rfl, rfl⟩ ⟨Nat.le_of_ble_eq_true rfl, Nat.le_of_ble_eq_true rfl⟩ ⟨(by show _ ≤ 600000; omega), (by show _ ≤ 7302250; omega)⟩ rfl (Nat.le_of_ble_eq_true rfl) ?_
  refine b_istore (lv' := [(5, .int r11), (4, .int r9), (3, .int x6), (2, .int r2), (1, .ref (ad 0)), (0, .ref b)]) C dL_law_40 (by decide) rfl ?_
  refine b_iload C 0 dL_law_42 rfl ?_
  refine b_if_ne (tgt := 51) C dL_law_44 (by decide) (fun c12 => ?_) (fun c12 => ?_)
  · have h13 := ineg h10 c12; clear h10
    refine b_iload C 0 dL_law_51 rfl ?_
    refine b_iconst (v := (1 : Int32)) C dL_law_53 (by decide) ?_
    refine b_icmp_ne (tgt := 62) C dL_law_54 (by decide) (fun c15 => ?_) (fun c15 => ?_)
    · have h16 := ineg h13 c15; clear h13
      refine b_iload C 0 dL_law_62 rfl ?_
      refine b_iconst (v := (2 : Int32)) C dL_law_64 (by decide) ?_
      refine b_icmp_ne (tgt := 73) C dL_law_65 (by decide) (fun c18 => ?_) (fun c18 => ?_)
      · have h19 := ineg h16 c18; clear h16
        refine b_iload C 0 dL_law_73 rfl ?_
        refine b_iconst (v := (3 : Int32)) C dL_law_75 (by decide) ?_
        refine b_icmp_ne (tgt := 85) C dL_law_76 (by decide) (fun c21 => ?_) (fun c21 => ?_)
        · have h22 := ineg h19 c21; clear h19
          refine b_ldc (v := (720720 : Int32)) C dL_law_85 kc_L_125 ?_
          exact b_widen (by omega) (by omega) (b_sub [5, 4, 2, 1] rfl (wL_law_87 hNN C X S hend hrf hce hsl _ _ _ _ h22))
        have h23 := ipos h19 c21; clear h19
        refine b_sipush (v := (420 : Int32)) C dL_law_79 (by decide) ?_
        refine b_goto (tgt := 87) C dL_law_82 (by decide) ?_
        exact b_widen (by omega) (by omega) (b_sub [5, 4, 2, 1] rfl (wL_law_87 hNN C X S hend hrf hce hsl _ _ _ _ h23))
      have h20 := ipos h16 c18; clear h16
      refine b_bipush (v := (60 : Int32)) C dL_law_68 (by decide) ?_
      refine b_goto (tgt := 87) C dL_law_70 (by decide) ?_
      exact b_widen (by omega) (by omega) (b_sub [5, 4, 2, 1] rfl (wL_law_87 hNN C X S hend hrf hce hsl _ _ _ _ h20))
    have h17 := ipos h13 c15; clear h13
    refine b_bipush (v := (6 : Int32)) C dL_law_57 (by decide) ?_
    refine b_goto (tgt := 87) C dL_law_59 (by decide) ?_
    exact b_widen (by omega) (by omega) (b_sub [5, 4, 2, 1] rfl (wL_law_87 hNN C X S hend hrf hce hsl _ _ _ _ h17))
  have h14 := ipos h10 c12; clear h10
  refine b_iconst (v := (1 : Int32)) C dL_law_47 (by decide) ?_
  refine b_goto (tgt := 87) C dL_law_48 (by decide) ?_
  exact b_widen (by omega) (by omega) (b_sub [5, 4, 2, 1] rfl (wL_law_87 hNN C X S hend hrf hce hsl _ _ _ _ h14))
