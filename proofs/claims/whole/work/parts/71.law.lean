/-! the law, call by call -/
section
variable {p : Program} {l : Launch} {e : Env} {s : State} {m : MethodId} {args : Array Value} {below : List Frame} {meth : Method} {c : Code} {Q : State → Prop}
variable {D : va_G} {A : Nat → Prop} {σ τ : St} {ad : Nat → Nat} {ca : Nat → ClassId} {ad' : Nat → Nat} {ca' : Nat → ClassId} {b L i : Nat} {xs : Nat → Int32}
theorem law_reset (C : Cb p s m args meth c RL cL_law 4) (X : LC s D A ad ca ad' ca' b L xs) (hi : i + 4 < L) (H : Rl σ τ) (kk : ∀ σ' τ', Rl σ' τ' → bW p l e room_1 s m args below meth c 600000 7302249 Q 4 (wl D A s (wX ad ca) σ' (wM ad' ca' τ')) 1245 (lvL b (ad 0) (ad' 0) i) []) : bW p l e room_1 s m args below meth c 600000 7302249 Q 4 (wl D A s (wX ad ca) σ (wM ad' ca' τ)) 156 (lvL b (ad 0) (ad' 0) i) [] := by
  obtain ⟨v, σ', τ', e1, e2, h'⟩ := ok_reset (N := 2000) (Nat.le_refl 2000) H (xs (i + 1)) (xs (i + 2)) (xs (i + 3))
  refine b_aload_n C 1 dL_law_156 rfl rfl ?_
  refine b_arg C X.2.2.2.2 1 (by omega) dL_law_157 dL_law_158 dL_law_159 rfl dL_law_160 dL_law_161 ?_
  refine b_arg C X.2.2.2.2 2 (by omega) dL_law_162 dL_law_163 dL_law_164 rfl dL_law_165 dL_law_166 ?_
  refine b_arg C X.2.2.2.2 3 (by omega) dL_law_167 dL_law_168 dL_law_169 rfl dL_law_170 dL_law_171 ?_
  refine b_callL (v := some (.int v)) (rest := []) C (sameX _ _) X.1 (X.2.2.1 _) dL_law_172 (ctX2_reset e1) mf_X2_reset mi_X2_reset kl_L_13 0 rfl rfl rfl rfl ⟨rfl, rfl⟩ ⟨(Nat.le_of_ble_eq_true rfl), (Nat.le_of_ble_eq_true rfl)⟩ ⟨(Nat.le_of_ble_eq_true rfl), (Nat.le_of_ble_eq_true rfl)⟩ rfl (Nat.le_of_ble_eq_true rfl) ?_
  refine b_swap ?_
  refine b_aload_n C 2 dL_law_175 rfl rfl ?_
  refine b_arg C X.2.2.2.2 1 (by omega) dL_law_176 dL_law_177 dL_law_178 rfl dL_law_179 dL_law_180 ?_
  refine b_arg C X.2.2.2.2 2 (by omega) dL_law_181 dL_law_182 dL_law_183 rfl dL_law_184 dL_law_185 ?_
  refine b_arg C X.2.2.2.2 3 (by omega) dL_law_186 dL_law_187 dL_law_188 rfl dL_law_189 dL_law_190 ?_
  refine b_callL (v := some (.int v)) (rest := [.int v]) C (sameM _ _) X.2.1 (X.2.2.2.1 _) dL_law_191 (ctX3_reset e2) mf_X3_reset mi_X3_reset kl_L_17 0 rfl rfl rfl rfl ⟨rfl, rfl⟩ ⟨(Nat.le_of_ble_eq_true rfl), (Nat.le_of_ble_eq_true rfl)⟩ ⟨(Nat.le_of_ble_eq_true rfl), (Nat.le_of_ble_eq_true rfl)⟩ rfl (Nat.le_of_ble_eq_true rfl) ?_
  refine b_swap ?_
  exact b_icmp_eq (tgt := 1245) C dL_law_194 (by decide) (fun _ => kk σ' τ' h') (fun z => absurd rfl z)
theorem law_type (C : Cb p s m args meth c RL cL_law 4) (X : LC s D A ad ca ad' ca' b L xs) (hi : i + 4 < L) (H : Rl σ τ) (kk : ∀ σ' τ', Rl σ' τ' → bW p l e room_1 s m args below meth c 600000 7302249 Q 4 (wl D A s (wX ad ca) σ' (wM ad' ca' τ')) 1245 (lvL b (ad 0) (ad' 0) i) []) : bW p l e room_1 s m args below meth c 600000 7302249 Q 4 (wl D A s (wX ad ca) σ (wM ad' ca' τ)) 199 (lvL b (ad 0) (ad' 0) i) [] := by
  obtain ⟨v, σ', τ', e1, e2, h'⟩ := ok_type H (((xs (i + 1)).toUInt32 % 65536).toInt32)
  refine b_aload_n C 1 dL_law_199 rfl rfl ?_
  refine b_arg C X.2.2.2.2 1 (by omega) dL_law_200 dL_law_201 dL_law_202 rfl dL_law_203 dL_law_204 ?_
  refine b_i2c C dL_law_205 ?_
  refine b_callL (v := some (.int v)) (rest := []) C (sameX _ _) X.1 (X.2.2.1 _) dL_law_206 (ctX2_type e1) mf_X2_type mi_X2_type kl_L_18 0 rfl rfl rfl rfl ⟨rfl, rfl⟩ ⟨(Nat.le_of_ble_eq_true rfl), (Nat.le_of_ble_eq_true rfl)⟩ ⟨(Nat.le_of_ble_eq_true rfl), (Nat.le_of_ble_eq_true rfl)⟩ rfl (Nat.le_of_ble_eq_true rfl) ?_
  refine b_swap ?_
  refine b_aload_n C 2 dL_law_209 rfl rfl ?_
  refine b_arg C X.2.2.2.2 1 (by omega) dL_law_210 dL_law_211 dL_law_212 rfl dL_law_213 dL_law_214 ?_
  refine b_i2c C dL_law_215 ?_
  refine b_callL (v := some (.int v)) (rest := [.int v]) C (sameM _ _) X.2.1 (X.2.2.2.1 _) dL_law_216 (ctX3_type e2) mf_X3_type mi_X3_type kl_L_22 0 rfl rfl rfl rfl ⟨rfl, rfl⟩ ⟨(Nat.le_of_ble_eq_true rfl), (Nat.le_of_ble_eq_true rfl)⟩ ⟨(Nat.le_of_ble_eq_true rfl), (Nat.le_of_ble_eq_true rfl)⟩ rfl (Nat.le_of_ble_eq_true rfl) ?_
  refine b_swap ?_
  exact b_icmp_eq (tgt := 1245) C dL_law_219 (by decide) (fun _ => kk σ' τ' h') (fun z => absurd rfl z)
theorem law_clearText (C : Cb p s m args meth c RL cL_law 4) (X : LC s D A ad ca ad' ca' b L xs) (hi : i + 4 < L) (H : Rl σ τ) (kk : ∀ σ' τ', Rl σ' τ' → bW p l e room_1 s m args below meth c 600000 7302249 Q 4 (wl D A s (wX ad ca) σ' (wM ad' ca' τ')) 1245 (lvL b (ad 0) (ad' 0) i) []) : bW p l e room_1 s m args below meth c 600000 7302249 Q 4 (wl D A s (wX ad ca) σ (wM ad' ca' τ)) 224 (lvL b (ad 0) (ad' 0) i) [] := by
  obtain ⟨v, σ', τ', e1, e2, h'⟩ := ok_clearText H 
  refine b_aload_n C 1 dL_law_224 rfl rfl ?_
  refine b_callL (v := some (.int v)) (rest := []) C (sameX _ _) X.1 (X.2.2.1 _) dL_law_225 (ctX2_clearText e1) mf_X2_clearText mi_X2_clearText kl_L_23 0 rfl rfl rfl rfl ⟨rfl, rfl⟩ ⟨(Nat.le_of_ble_eq_true rfl), (Nat.le_of_ble_eq_true rfl)⟩ ⟨(Nat.le_of_ble_eq_true rfl), (Nat.le_of_ble_eq_true rfl)⟩ rfl (Nat.le_of_ble_eq_true rfl) ?_
  refine b_swap ?_
  refine b_aload_n C 2 dL_law_228 rfl rfl ?_
  refine b_callL (v := some (.int v)) (rest := [.int v]) C (sameM _ _) X.2.1 (X.2.2.2.1 _) dL_law_229 (ctX3_clearText e2) mf_X3_clearText mi_X3_clearText kl_L_27 0 rfl rfl rfl rfl ⟨rfl, rfl⟩ ⟨(Nat.le_of_ble_eq_true rfl), (Nat.le_of_ble_eq_true rfl)⟩ ⟨(Nat.le_of_ble_eq_true rfl), (Nat.le_of_ble_eq_true rfl)⟩ rfl (Nat.le_of_ble_eq_true rfl) ?_
  refine b_swap ?_
  exact b_icmp_eq (tgt := 1245) C dL_law_232 (by decide) (fun _ => kk σ' τ' h') (fun z => absurd rfl z)
theorem law_readInput (C : Cb p s m args meth c RL cL_law 4) (X : LC s D A ad ca ad' ca' b L xs) (hi : i + 4 < L) (H : Rl σ τ) (kk : ∀ σ' τ', Rl σ' τ' → bW p l e room_1 s m args below meth c 600000 7302249 Q 4 (wl D A s (wX ad ca) σ' (wM ad' ca' τ')) 1245 (lvL b (ad 0) (ad' 0) i) []) : bW p l e room_1 s m args below meth c 600000 7302249 Q 4 (wl D A s (wX ad ca) σ (wM ad' ca' τ)) 237 (lvL b (ad 0) (ad' 0) i) [] := by
  obtain ⟨v, σ', τ', e1, e2, h'⟩ := ok_readInput (N := 2000) (Nat.le_refl 2000) H (xs (i + 1))
  refine b_aload_n C 1 dL_law_237 rfl rfl ?_
  refine b_arg C X.2.2.2.2 1 (by omega) dL_law_238 dL_law_239 dL_law_240 rfl dL_law_241 dL_law_242 ?_
  refine b_callL (v := some (.int v)) (rest := []) C (sameX _ _) X.1 (X.2.2.1 _) dL_law_243 (ctX2_readInput e1) mf_X2_readInput mi_X2_readInput kl_L_28 0 rfl rfl rfl rfl ⟨rfl, rfl⟩ ⟨(Nat.le_of_ble_eq_true rfl), (Nat.le_of_ble_eq_true rfl)⟩ ⟨(Nat.le_of_ble_eq_true rfl), (Nat.le_of_ble_eq_true rfl)⟩ rfl (Nat.le_of_ble_eq_true rfl) ?_
  refine b_swap ?_
  refine b_aload_n C 2 dL_law_246 rfl rfl ?_
  refine b_arg C X.2.2.2.2 1 (by omega) dL_law_247 dL_law_248 dL_law_249 rfl dL_law_250 dL_law_251 ?_
  refine b_callL (v := some (.int v)) (rest := [.int v]) C (sameM _ _) X.2.1 (X.2.2.2.1 _) dL_law_252 (ctX3_readInput e2) mf_X3_readInput mi_X3_readInput kl_L_32 0 rfl rfl rfl rfl ⟨rfl, rfl⟩ ⟨(Nat.le_of_ble_eq_true rfl), (Nat.le_of_ble_eq_true rfl)⟩ ⟨(Nat.le_of_ble_eq_true rfl), (Nat.le_of_ble_eq_true rfl)⟩ rfl (Nat.le_of_ble_eq_true rfl) ?_
  refine b_swap ?_
  exact b_icmp_eq (tgt := 1245) C dL_law_255 (by decide) (fun _ => kk σ' τ' h') (fun z => absurd rfl z)
theorem law_readLie (C : Cb p s m args meth c RL cL_law 4) (X : LC s D A ad ca ad' ca' b L xs) (hi : i + 4 < L) (H : Rl σ τ) (kk : ∀ σ' τ', Rl σ' τ' → bW p l e room_1 s m args below meth c 600000 7302249 Q 4 (wl D A s (wX ad ca) σ' (wM ad' ca' τ')) 1245 (lvL b (ad 0) (ad' 0) i) []) : bW p l e room_1 s m args below meth c 600000 7302249 Q 4 (wl D A s (wX ad ca) σ (wM ad' ca' τ)) 260 (lvL b (ad 0) (ad' 0) i) [] := by
  obtain ⟨v, σ', τ', e1, e2, h'⟩ := ok_readLie (N := 2000) (Nat.le_refl 2000) H (xs (i + 1)) (xs (i + 2))
  refine b_aload_n C 1 dL_law_260 rfl rfl ?_
  refine b_arg C X.2.2.2.2 1 (by omega) dL_law_261 dL_law_262 dL_law_263 rfl dL_law_264 dL_law_265 ?_
  refine b_arg C X.2.2.2.2 2 (by omega) dL_law_266 dL_law_267 dL_law_268 rfl dL_law_269 dL_law_270 ?_
  refine b_callL (v := some (.int v)) (rest := []) C (sameX _ _) X.1 (X.2.2.1 _) dL_law_271 (ctX2_readLie e1) mf_X2_readLie mi_X2_readLie kl_L_33 0 rfl rfl rfl rfl ⟨rfl, rfl⟩ ⟨(Nat.le_of_ble_eq_true rfl), (Nat.le_of_ble_eq_true rfl)⟩ ⟨(Nat.le_of_ble_eq_true rfl), (Nat.le_of_ble_eq_true rfl)⟩ rfl (Nat.le_of_ble_eq_true rfl) ?_
  refine b_swap ?_
  refine b_aload_n C 2 dL_law_274 rfl rfl ?_
  refine b_arg C X.2.2.2.2 1 (by omega) dL_law_275 dL_law_276 dL_law_277 rfl dL_law_278 dL_law_279 ?_
  refine b_arg C X.2.2.2.2 2 (by omega) dL_law_280 dL_law_281 dL_law_282 rfl dL_law_283 dL_law_284 ?_
  refine b_callL (v := some (.int v)) (rest := [.int v]) C (sameM _ _) X.2.1 (X.2.2.2.1 _) dL_law_285 (ctX3_readLie e2) mf_X3_readLie mi_X3_readLie kl_L_37 0 rfl rfl rfl rfl ⟨rfl, rfl⟩ ⟨(Nat.le_of_ble_eq_true rfl), (Nat.le_of_ble_eq_true rfl)⟩ ⟨(Nat.le_of_ble_eq_true rfl), (Nat.le_of_ble_eq_true rfl)⟩ rfl (Nat.le_of_ble_eq_true rfl) ?_
  refine b_swap ?_
  exact b_icmp_eq (tgt := 1245) C dL_law_288 (by decide) (fun _ => kk σ' τ' h') (fun z => absurd rfl z)
theorem law_setFaulty (C : Cb p s m args meth c RL cL_law 4) (X : LC s D A ad ca ad' ca' b L xs) (hi : i + 4 < L) (H : Rl σ τ) (kk : ∀ σ' τ', Rl σ' τ' → bW p l e room_1 s m args below meth c 600000 7302249 Q 4 (wl D A s (wX ad ca) σ' (wM ad' ca' τ')) 1245 (lvL b (ad 0) (ad' 0) i) []) : bW p l e room_1 s m args below meth c 600000 7302249 Q 4 (wl D A s (wX ad ca) σ (wM ad' ca' τ)) 293 (lvL b (ad 0) (ad' 0) i) [] := by
  obtain ⟨v, σ', τ', e1, e2, h'⟩ := ok_setFaulty H (xs (i + 1)) (xs (i + 2)) (xs (i + 3)) (xs (i + 4))
  refine b_aload_n C 1 dL_law_293 rfl rfl ?_
  refine b_arg C X.2.2.2.2 1 (by omega) dL_law_294 dL_law_295 dL_law_296 rfl dL_law_297 dL_law_298 ?_
  refine b_arg C X.2.2.2.2 2 (by omega) dL_law_299 dL_law_300 dL_law_301 rfl dL_law_302 dL_law_303 ?_
  refine b_arg C X.2.2.2.2 3 (by omega) dL_law_304 dL_law_305 dL_law_306 rfl dL_law_307 dL_law_308 ?_
  refine b_arg C X.2.2.2.2 4 (by omega) dL_law_309 dL_law_310 dL_law_311 rfl dL_law_312 dL_law_313 ?_
  refine b_callL (v := some (.int v)) (rest := []) C (sameX _ _) X.1 (X.2.2.1 _) dL_law_314 (ctX2_setFaulty e1) mf_X2_setFaulty mi_X2_setFaulty kl_L_38 0 rfl rfl rfl rfl ⟨rfl, rfl⟩ ⟨(Nat.le_of_ble_eq_true rfl), (Nat.le_of_ble_eq_true rfl)⟩ ⟨(Nat.le_of_ble_eq_true rfl), (Nat.le_of_ble_eq_true rfl)⟩ rfl (Nat.le_of_ble_eq_true rfl) ?_
  refine b_swap ?_
  refine b_aload_n C 2 dL_law_317 rfl rfl ?_
  refine b_arg C X.2.2.2.2 1 (by omega) dL_law_318 dL_law_319 dL_law_320 rfl dL_law_321 dL_law_322 ?_
  refine b_arg C X.2.2.2.2 2 (by omega) dL_law_323 dL_law_324 dL_law_325 rfl dL_law_326 dL_law_327 ?_
  refine b_arg C X.2.2.2.2 3 (by omega) dL_law_328 dL_law_329 dL_law_330 rfl dL_law_331 dL_law_332 ?_
  refine b_arg C X.2.2.2.2 4 (by omega) dL_law_333 dL_law_334 dL_law_335 rfl dL_law_336 dL_law_337 ?_
  refine b_callL (v := some (.int v)) (rest := [.int v]) C (sameM _ _) X.2.1 (X.2.2.2.1 _) dL_law_338 (ctX3_setFaulty e2) mf_X3_setFaulty mi_X3_setFaulty kl_L_42 0 rfl rfl rfl rfl ⟨rfl, rfl⟩ ⟨(Nat.le_of_ble_eq_true rfl), (Nat.le_of_ble_eq_true rfl)⟩ ⟨(Nat.le_of_ble_eq_true rfl), (Nat.le_of_ble_eq_true rfl)⟩ rfl (Nat.le_of_ble_eq_true rfl) ?_
  refine b_swap ?_
  exact b_icmp_eq (tgt := 1245) C dL_law_341 (by decide) (fun _ => kk σ' τ' h') (fun z => absurd rfl z)
theorem law_setCorrect (C : Cb p s m args meth c RL cL_law 4) (X : LC s D A ad ca ad' ca' b L xs) (hi : i + 4 < L) (H : Rl σ τ) (kk : ∀ σ' τ', Rl σ' τ' → bW p l e room_1 s m args below meth c 600000 7302249 Q 4 (wl D A s (wX ad ca) σ' (wM ad' ca' τ')) 1245 (lvL b (ad 0) (ad' 0) i) []) : bW p l e room_1 s m args below meth c 600000 7302249 Q 4 (wl D A s (wX ad ca) σ (wM ad' ca' τ)) 346 (lvL b (ad 0) (ad' 0) i) [] := by
  obtain ⟨v, σ', τ', e1, e2, h'⟩ := ok_setCorrect H (xs (i + 1))
  refine b_aload_n C 1 dL_law_346 rfl rfl ?_
  refine b_arg C X.2.2.2.2 1 (by omega) dL_law_347 dL_law_348 dL_law_349 rfl dL_law_350 dL_law_351 ?_
  refine b_callL (v := some (.int v)) (rest := []) C (sameX _ _) X.1 (X.2.2.1 _) dL_law_352 (ctX2_setCorrect e1) mf_X2_setCorrect mi_X2_setCorrect kl_L_43 0 rfl rfl rfl rfl ⟨rfl, rfl⟩ ⟨(Nat.le_of_ble_eq_true rfl), (Nat.le_of_ble_eq_true rfl)⟩ ⟨(Nat.le_of_ble_eq_true rfl), (Nat.le_of_ble_eq_true rfl)⟩ rfl (Nat.le_of_ble_eq_true rfl) ?_
  refine b_swap ?_
  refine b_aload_n C 2 dL_law_355 rfl rfl ?_
  refine b_arg C X.2.2.2.2 1 (by omega) dL_law_356 dL_law_357 dL_law_358 rfl dL_law_359 dL_law_360 ?_
  refine b_callL (v := some (.int v)) (rest := [.int v]) C (sameM _ _) X.2.1 (X.2.2.2.1 _) dL_law_361 (ctX3_setCorrect e2) mf_X3_setCorrect mi_X3_setCorrect kl_L_46 0 rfl rfl rfl rfl ⟨rfl, rfl⟩ ⟨(Nat.le_of_ble_eq_true rfl), (Nat.le_of_ble_eq_true rfl)⟩ ⟨(Nat.le_of_ble_eq_true rfl), (Nat.le_of_ble_eq_true rfl)⟩ rfl (Nat.le_of_ble_eq_true rfl) ?_
  refine b_swap ?_
  exact b_icmp_eq (tgt := 1245) C dL_law_364 (by decide) (fun _ => kk σ' τ' h') (fun z => absurd rfl z)
theorem law_setLink (C : Cb p s m args meth c RL cL_law 4) (X : LC s D A ad ca ad' ca' b L xs) (hi : i + 4 < L) (H : Rl σ τ) (kk : ∀ σ' τ', Rl σ' τ' → bW p l e room_1 s m args below meth c 600000 7302249 Q 4 (wl D A s (wX ad ca) σ' (wM ad' ca' τ')) 1245 (lvL b (ad 0) (ad' 0) i) []) : bW p l e room_1 s m args below meth c 600000 7302249 Q 4 (wl D A s (wX ad ca) σ (wM ad' ca' τ)) 369 (lvL b (ad 0) (ad' 0) i) [] := by
  obtain ⟨v, σ', τ', e1, e2, h'⟩ := ok_setLink H (xs (i + 1)) (xs (i + 2)) (xs (i + 3))
  refine b_aload_n C 1 dL_law_369 rfl rfl ?_
  refine b_arg C X.2.2.2.2 1 (by omega) dL_law_370 dL_law_371 dL_law_372 rfl dL_law_373 dL_law_374 ?_
  refine b_arg C X.2.2.2.2 2 (by omega) dL_law_375 dL_law_376 dL_law_377 rfl dL_law_378 dL_law_379 ?_
  refine b_arg C X.2.2.2.2 3 (by omega) dL_law_380 dL_law_381 dL_law_382 rfl dL_law_383 dL_law_384 ?_
  refine b_callL (v := some (.int v)) (rest := []) C (sameX _ _) X.1 (X.2.2.1 _) dL_law_385 (ctX2_setLink e1) mf_X2_setLink mi_X2_setLink kl_L_47 0 rfl rfl rfl rfl ⟨rfl, rfl⟩ ⟨(Nat.le_of_ble_eq_true rfl), (Nat.le_of_ble_eq_true rfl)⟩ ⟨(Nat.le_of_ble_eq_true rfl), (Nat.le_of_ble_eq_true rfl)⟩ rfl (Nat.le_of_ble_eq_true rfl) ?_
  refine b_swap ?_
  refine b_aload_n C 2 dL_law_388 rfl rfl ?_
  refine b_arg C X.2.2.2.2 1 (by omega) dL_law_389 dL_law_390 dL_law_391 rfl dL_law_392 dL_law_393 ?_
  refine b_arg C X.2.2.2.2 2 (by omega) dL_law_394 dL_law_395 dL_law_396 rfl dL_law_397 dL_law_398 ?_
  refine b_arg C X.2.2.2.2 3 (by omega) dL_law_399 dL_law_400 dL_law_401 rfl dL_law_402 dL_law_403 ?_
  refine b_callL (v := some (.int v)) (rest := [.int v]) C (sameM _ _) X.2.1 (X.2.2.2.1 _) dL_law_404 (ctX3_setLink e2) mf_X3_setLink mi_X3_setLink kl_L_50 0 rfl rfl rfl rfl ⟨rfl, rfl⟩ ⟨(Nat.le_of_ble_eq_true rfl), (Nat.le_of_ble_eq_true rfl)⟩ ⟨(Nat.le_of_ble_eq_true rfl), (Nat.le_of_ble_eq_true rfl)⟩ rfl (Nat.le_of_ble_eq_true rfl) ?_
  refine b_swap ?_
  exact b_icmp_eq (tgt := 1245) C dL_law_407 (by decide) (fun _ => kk σ' τ' h') (fun z => absurd rfl z)
theorem law_setRule (C : Cb p s m args meth c RL cL_law 4) (X : LC s D A ad ca ad' ca' b L xs) (hi : i + 4 < L) (H : Rl σ τ) (kk : ∀ σ' τ', Rl σ' τ' → bW p l e room_1 s m args below meth c 600000 7302249 Q 4 (wl D A s (wX ad ca) σ' (wM ad' ca' τ')) 1245 (lvL b (ad 0) (ad' 0) i) []) : bW p l e room_1 s m args below meth c 600000 7302249 Q 4 (wl D A s (wX ad ca) σ (wM ad' ca' τ)) 412 (lvL b (ad 0) (ad' 0) i) [] := by
  obtain ⟨v, σ', τ', e1, e2, h'⟩ := ok_setRule H (xs (i + 1))
  refine b_aload_n C 1 dL_law_412 rfl rfl ?_
  refine b_arg C X.2.2.2.2 1 (by omega) dL_law_413 dL_law_414 dL_law_415 rfl dL_law_416 dL_law_417 ?_
  refine b_callL (v := some (.int v)) (rest := []) C (sameX _ _) X.1 (X.2.2.1 _) dL_law_418 (ctX2_setRule e1) mf_X2_setRule mi_X2_setRule kl_L_51 0 rfl rfl rfl rfl ⟨rfl, rfl⟩ ⟨(Nat.le_of_ble_eq_true rfl), (Nat.le_of_ble_eq_true rfl)⟩ ⟨(Nat.le_of_ble_eq_true rfl), (Nat.le_of_ble_eq_true rfl)⟩ rfl (Nat.le_of_ble_eq_true rfl) ?_
  refine b_swap ?_
  refine b_aload_n C 2 dL_law_421 rfl rfl ?_
  refine b_arg C X.2.2.2.2 1 (by omega) dL_law_422 dL_law_423 dL_law_424 rfl dL_law_425 dL_law_426 ?_
  refine b_callL (v := some (.int v)) (rest := [.int v]) C (sameM _ _) X.2.1 (X.2.2.2.1 _) dL_law_427 (ctX3_setRule e2) mf_X3_setRule mi_X3_setRule kl_L_54 0 rfl rfl rfl rfl ⟨rfl, rfl⟩ ⟨(Nat.le_of_ble_eq_true rfl), (Nat.le_of_ble_eq_true rfl)⟩ ⟨(Nat.le_of_ble_eq_true rfl), (Nat.le_of_ble_eq_true rfl)⟩ rfl (Nat.le_of_ble_eq_true rfl) ?_
  refine b_swap ?_
  exact b_icmp_eq (tgt := 1245) C dL_law_430 (by decide) (fun _ => kk σ' τ' h') (fun z => absurd rfl z)
theorem law_count (C : Cb p s m args meth c RL cL_law 4) (X : LC s D A ad ca ad' ca' b L xs) (hi : i + 4 < L) (H : Rl σ τ) (kk : ∀ σ' τ', Rl σ' τ' → bW p l e room_1 s m args below meth c 600000 7302249 Q 4 (wl D A s (wX ad ca) σ' (wM ad' ca' τ')) 1245 (lvL b (ad 0) (ad' 0) i) []) : bW p l e room_1 s m args below meth c 600000 7302249 Q 4 (wl D A s (wX ad ca) σ (wM ad' ca' τ)) 435 (lvL b (ad 0) (ad' 0) i) [] := by
  obtain ⟨v, σ', τ', e1, e2, h'⟩ := ok_count (N := 2000) (Nat.le_refl 2000) H (xs (i + 1))
  refine b_aload_n C 1 dL_law_435 rfl rfl ?_
  refine b_arg C X.2.2.2.2 1 (by omega) dL_law_436 dL_law_437 dL_law_438 rfl dL_law_439 dL_law_440 ?_
  refine b_callL (v := some (.int v)) (rest := []) C (sameX _ _) X.1 (X.2.2.1 _) dL_law_441 (ctX2_count e1) mf_X2_count mi_X2_count kl_L_55 0 rfl rfl rfl rfl ⟨rfl, rfl⟩ ⟨(Nat.le_of_ble_eq_true rfl), (Nat.le_of_ble_eq_true rfl)⟩ ⟨(Nat.le_of_ble_eq_true rfl), (Nat.le_of_ble_eq_true rfl)⟩ rfl (Nat.le_of_ble_eq_true rfl) ?_
  refine b_swap ?_
  refine b_aload_n C 2 dL_law_444 rfl rfl ?_
  refine b_arg C X.2.2.2.2 1 (by omega) dL_law_445 dL_law_446 dL_law_447 rfl dL_law_448 dL_law_449 ?_
  refine b_callL (v := some (.int v)) (rest := [.int v]) C (sameM _ _) X.2.1 (X.2.2.2.1 _) dL_law_450 (ctX3_count e2) mf_X3_count mi_X3_count kl_L_58 0 rfl rfl rfl rfl ⟨rfl, rfl⟩ ⟨(Nat.le_of_ble_eq_true rfl), (Nat.le_of_ble_eq_true rfl)⟩ ⟨(Nat.le_of_ble_eq_true rfl), (Nat.le_of_ble_eq_true rfl)⟩ rfl (Nat.le_of_ble_eq_true rfl) ?_
  refine b_swap ?_
  exact b_icmp_eq (tgt := 1245) C dL_law_453 (by decide) (fun _ => kk σ' τ' h') (fun z => absurd rfl z)
theorem law_strategy (C : Cb p s m args meth c RL cL_law 4) (X : LC s D A ad ca ad' ca' b L xs) (hi : i + 4 < L) (H : Rl σ τ) (kk : ∀ σ' τ', Rl σ' τ' → bW p l e room_1 s m args below meth c 600000 7302249 Q 4 (wl D A s (wX ad ca) σ' (wM ad' ca' τ')) 1245 (lvL b (ad 0) (ad' 0) i) []) : bW p l e room_1 s m args below meth c 600000 7302249 Q 4 (wl D A s (wX ad ca) σ (wM ad' ca' τ)) 458 (lvL b (ad 0) (ad' 0) i) [] := by
  obtain ⟨v, σ', τ', e1, e2, h'⟩ := ok_strategy H (xs (i + 1))
  refine b_aload_n C 1 dL_law_458 rfl rfl ?_
  refine b_arg C X.2.2.2.2 1 (by omega) dL_law_459 dL_law_460 dL_law_461 rfl dL_law_462 dL_law_463 ?_
  refine b_callL (v := some (.int v)) (rest := []) C (sameX _ _) X.1 (X.2.2.1 _) dL_law_464 (ctX2_strategy e1) mf_X2_strategy mi_X2_strategy kl_L_59 0 rfl rfl rfl rfl ⟨rfl, rfl⟩ ⟨(Nat.le_of_ble_eq_true rfl), (Nat.le_of_ble_eq_true rfl)⟩ ⟨(Nat.le_of_ble_eq_true rfl), (Nat.le_of_ble_eq_true rfl)⟩ rfl (Nat.le_of_ble_eq_true rfl) ?_
  refine b_swap ?_
  refine b_aload_n C 2 dL_law_467 rfl rfl ?_
  refine b_arg C X.2.2.2.2 1 (by omega) dL_law_468 dL_law_469 dL_law_470 rfl dL_law_471 dL_law_472 ?_
  refine b_callL (v := some (.int v)) (rest := [.int v]) C (sameM _ _) X.2.1 (X.2.2.2.1 _) dL_law_473 (ctX3_strategy e2) mf_X3_strategy mi_X3_strategy kl_L_62 0 rfl rfl rfl rfl ⟨rfl, rfl⟩ ⟨(Nat.le_of_ble_eq_true rfl), (Nat.le_of_ble_eq_true rfl)⟩ ⟨(Nat.le_of_ble_eq_true rfl), (Nat.le_of_ble_eq_true rfl)⟩ rfl (Nat.le_of_ble_eq_true rfl) ?_
  refine b_swap ?_
  exact b_icmp_eq (tgt := 1245) C dL_law_476 (by decide) (fun _ => kk σ' τ' h') (fun z => absurd rfl z)
theorem law_run (C : Cb p s m args meth c RL cL_law 4) (X : LC s D A ad ca ad' ca' b L xs) (hi : i + 4 < L) (H : Rl σ τ) (kk : ∀ σ' τ', Rl σ' τ' → bW p l e room_1 s m args below meth c 600000 7302249 Q 4 (wl D A s (wX ad ca) σ' (wM ad' ca' τ')) 1245 (lvL b (ad 0) (ad' 0) i) []) : bW p l e room_1 s m args below meth c 600000 7302249 Q 4 (wl D A s (wX ad ca) σ (wM ad' ca' τ)) 481 (lvL b (ad 0) (ad' 0) i) [] := by
  obtain ⟨v, σ', τ', e1, e2, h'⟩ := ok_run (N := 2000) (Nat.le_refl 2000) H (xs (i + 1))
  refine b_aload_n C 1 dL_law_481 rfl rfl ?_
  refine b_arg C X.2.2.2.2 1 (by omega) dL_law_482 dL_law_483 dL_law_484 rfl dL_law_485 dL_law_486 ?_
  refine b_callL (v := some (.int v)) (rest := []) C (sameX _ _) X.1 (X.2.2.1 _) dL_law_487 (ctX2_run e1) mf_X2_run mi_X2_run kl_L_63 0 rfl rfl rfl rfl ⟨rfl, rfl⟩ ⟨(Nat.le_of_ble_eq_true rfl), (Nat.le_of_ble_eq_true rfl)⟩ ⟨(Nat.le_of_ble_eq_true rfl), (Nat.le_of_ble_eq_true rfl)⟩ rfl (Nat.le_of_ble_eq_true rfl) ?_
  refine b_swap ?_
  refine b_aload_n C 2 dL_law_490 rfl rfl ?_
  refine b_arg C X.2.2.2.2 1 (by omega) dL_law_491 dL_law_492 dL_law_493 rfl dL_law_494 dL_law_495 ?_
  refine b_callL (v := some (.int v)) (rest := [.int v]) C (sameM _ _) X.2.1 (X.2.2.2.1 _) dL_law_496 (ctX3_run e2) mf_X3_run mi_X3_run kl_L_66 0 rfl rfl rfl rfl ⟨rfl, rfl⟩ ⟨(Nat.le_of_ble_eq_true rfl), (Nat.le_of_ble_eq_true rfl)⟩ ⟨(Nat.le_of_ble_eq_true rfl), (Nat.le_of_ble_eq_true rfl)⟩ rfl (Nat.le_of_ble_eq_true rfl) ?_
  refine b_swap ?_
  exact b_icmp_eq (tgt := 1245) C dL_law_499 (by decide) (fun _ => kk σ' τ' h') (fun z => absurd rfl z)
theorem law_runTo (C : Cb p s m args meth c RL cL_law 4) (X : LC s D A ad ca ad' ca' b L xs) (hi : i + 4 < L) (H : Rl σ τ) (kk : ∀ σ' τ', Rl σ' τ' → bW p l e room_1 s m args below meth c 600000 7302249 Q 4 (wl D A s (wX ad ca) σ' (wM ad' ca' τ')) 1245 (lvL b (ad 0) (ad' 0) i) []) : bW p l e room_1 s m args below meth c 600000 7302249 Q 4 (wl D A s (wX ad ca) σ (wM ad' ca' τ)) 504 (lvL b (ad 0) (ad' 0) i) [] := by
  obtain ⟨v, σ', τ', e1, e2, h'⟩ := ok_runTo (N := 2000) (Nat.le_refl 2000) H (xs (i + 1)) (xs (i + 2)) (xs (i + 3))
  refine b_aload_n C 1 dL_law_504 rfl rfl ?_
  refine b_arg C X.2.2.2.2 1 (by omega) dL_law_505 dL_law_506 dL_law_507 rfl dL_law_508 dL_law_509 ?_
  refine b_arg C X.2.2.2.2 2 (by omega) dL_law_510 dL_law_511 dL_law_512 rfl dL_law_513 dL_law_514 ?_
  refine b_arg C X.2.2.2.2 3 (by omega) dL_law_515 dL_law_516 dL_law_517 rfl dL_law_518 dL_law_519 ?_
  refine b_callL (v := some (.int v)) (rest := []) C (sameX _ _) X.1 (X.2.2.1 _) dL_law_520 (ctX2_runTo e1) mf_X2_runTo mi_X2_runTo kl_L_67 0 rfl rfl rfl rfl ⟨rfl, rfl⟩ ⟨(Nat.le_of_ble_eq_true rfl), (Nat.le_of_ble_eq_true rfl)⟩ ⟨(Nat.le_of_ble_eq_true rfl), (Nat.le_of_ble_eq_true rfl)⟩ rfl (Nat.le_of_ble_eq_true rfl) ?_
  refine b_swap ?_
  refine b_aload_n C 2 dL_law_523 rfl rfl ?_
  refine b_arg C X.2.2.2.2 1 (by omega) dL_law_524 dL_law_525 dL_law_526 rfl dL_law_527 dL_law_528 ?_
  refine b_arg C X.2.2.2.2 2 (by omega) dL_law_529 dL_law_530 dL_law_531 rfl dL_law_532 dL_law_533 ?_
  refine b_arg C X.2.2.2.2 3 (by omega) dL_law_534 dL_law_535 dL_law_536 rfl dL_law_537 dL_law_538 ?_
  refine b_callL (v := some (.int v)) (rest := [.int v]) C (sameM _ _) X.2.1 (X.2.2.2.1 _) dL_law_539 (ctX3_runTo e2) mf_X3_runTo mi_X3_runTo kl_L_70 0 rfl rfl rfl rfl ⟨rfl, rfl⟩ ⟨(Nat.le_of_ble_eq_true rfl), (Nat.le_of_ble_eq_true rfl)⟩ ⟨(Nat.le_of_ble_eq_true rfl), (Nat.le_of_ble_eq_true rfl)⟩ rfl (Nat.le_of_ble_eq_true rfl) ?_
  refine b_swap ?_
  exact b_icmp_eq (tgt := 1245) C dL_law_542 (by decide) (fun _ => kk σ' τ' h') (fun z => absurd rfl z)
theorem law_back (C : Cb p s m args meth c RL cL_law 4) (X : LC s D A ad ca ad' ca' b L xs) (hi : i + 4 < L) (H : Rl σ τ) (kk : ∀ σ' τ', Rl σ' τ' → bW p l e room_1 s m args below meth c 600000 7302249 Q 4 (wl D A s (wX ad ca) σ' (wM ad' ca' τ')) 1245 (lvL b (ad 0) (ad' 0) i) []) : bW p l e room_1 s m args below meth c 600000 7302249 Q 4 (wl D A s (wX ad ca) σ (wM ad' ca' τ)) 547 (lvL b (ad 0) (ad' 0) i) [] := by
  obtain ⟨v, σ', τ', e1, e2, h'⟩ := ok_back H (xs (i + 1))
  refine b_aload_n C 1 dL_law_547 rfl rfl ?_
  refine b_arg C X.2.2.2.2 1 (by omega) dL_law_548 dL_law_549 dL_law_550 rfl dL_law_551 dL_law_552 ?_
  refine b_callL (v := some (.int v)) (rest := []) C (sameX _ _) X.1 (X.2.2.1 _) dL_law_553 (ctX2_back e1) mf_X2_back mi_X2_back kl_L_71 0 rfl rfl rfl rfl ⟨rfl, rfl⟩ ⟨(Nat.le_of_ble_eq_true rfl), (Nat.le_of_ble_eq_true rfl)⟩ ⟨(Nat.le_of_ble_eq_true rfl), (Nat.le_of_ble_eq_true rfl)⟩ rfl (Nat.le_of_ble_eq_true rfl) ?_
  refine b_swap ?_
  refine b_aload_n C 2 dL_law_556 rfl rfl ?_
  refine b_arg C X.2.2.2.2 1 (by omega) dL_law_557 dL_law_558 dL_law_559 rfl dL_law_560 dL_law_561 ?_
  refine b_callL (v := some (.int v)) (rest := [.int v]) C (sameM _ _) X.2.1 (X.2.2.2.1 _) dL_law_562 (ctX3_back e2) mf_X3_back mi_X3_back kl_L_74 0 rfl rfl rfl rfl ⟨rfl, rfl⟩ ⟨(Nat.le_of_ble_eq_true rfl), (Nat.le_of_ble_eq_true rfl)⟩ ⟨(Nat.le_of_ble_eq_true rfl), (Nat.le_of_ble_eq_true rfl)⟩ rfl (Nat.le_of_ble_eq_true rfl) ?_
  refine b_swap ?_
  exact b_icmp_eq (tgt := 1245) C dL_law_565 (by decide) (fun _ => kk σ' τ' h') (fun z => absurd rfl z)
theorem law_value (C : Cb p s m args meth c RL cL_law 4) (X : LC s D A ad ca ad' ca' b L xs) (hi : i + 4 < L) (H : Rl σ τ) (kk : ∀ σ' τ', Rl σ' τ' → bW p l e room_1 s m args below meth c 600000 7302249 Q 4 (wl D A s (wX ad ca) σ' (wM ad' ca' τ')) 1245 (lvL b (ad 0) (ad' 0) i) []) : bW p l e room_1 s m args below meth c 600000 7302249 Q 4 (wl D A s (wX ad ca) σ (wM ad' ca' τ)) 570 (lvL b (ad 0) (ad' 0) i) [] := by
  obtain ⟨v, σ', τ', e1, e2, h'⟩ := ok_value (N := 2000) (Nat.le_refl 2000) H (xs (i + 1)) (xs (i + 2)) (bz (xs (i + 3))) (bz (xs (i + 4)))
  refine b_aload_n C 1 dL_law_570 rfl rfl ?_
  refine b_arg C X.2.2.2.2 1 (by omega) dL_law_571 dL_law_572 dL_law_573 rfl dL_law_574 dL_law_575 ?_
  refine b_arg C X.2.2.2.2 2 (by omega) dL_law_576 dL_law_577 dL_law_578 rfl dL_law_579 dL_law_580 ?_
  refine b_arg C X.2.2.2.2 3 (by omega) dL_law_581 dL_law_582 dL_law_583 rfl dL_law_584 dL_law_585 ?_
  refine b_tern C dL_law_586 dL_law_589 dL_law_590 dL_law_593 ?_
  refine b_arg C X.2.2.2.2 4 (by omega) dL_law_594 dL_law_595 dL_law_596 rfl dL_law_597 dL_law_598 ?_
  refine b_tern C dL_law_599 dL_law_602 dL_law_603 dL_law_606 ?_
  refine b_callL (v := some (.long v)) (rest := []) C (sameX _ _) X.1 (X.2.2.1 _) dL_law_607 (ctX2_value e1) mf_X2_value mi_X2_value kl_L_75 0 rfl rfl rfl rfl ⟨rfl, rfl⟩ ⟨(Nat.le_of_ble_eq_true rfl), (Nat.le_of_ble_eq_true rfl)⟩ ⟨(Nat.le_of_ble_eq_true rfl), (Nat.le_of_ble_eq_true rfl)⟩ rfl (Nat.le_of_ble_eq_true rfl) ?_
  refine b_swap ?_
  refine b_aload_n C 2 dL_law_610 rfl rfl ?_
  refine b_arg C X.2.2.2.2 1 (by omega) dL_law_611 dL_law_612 dL_law_613 rfl dL_law_614 dL_law_615 ?_
  refine b_arg C X.2.2.2.2 2 (by omega) dL_law_616 dL_law_617 dL_law_618 rfl dL_law_619 dL_law_620 ?_
  refine b_arg C X.2.2.2.2 3 (by omega) dL_law_621 dL_law_622 dL_law_623 rfl dL_law_624 dL_law_625 ?_
  refine b_tern C dL_law_626 dL_law_629 dL_law_630 dL_law_633 ?_
  refine b_arg C X.2.2.2.2 4 (by omega) dL_law_634 dL_law_635 dL_law_636 rfl dL_law_637 dL_law_638 ?_
  refine b_tern C dL_law_639 dL_law_642 dL_law_643 dL_law_646 ?_
  refine b_callL (v := some (.long v)) (rest := [.long v]) C (sameM _ _) X.2.1 (X.2.2.2.1 _) dL_law_647 (ctX3_value e2) mf_X3_value mi_X3_value kl_L_79 0 rfl rfl rfl rfl ⟨rfl, rfl⟩ ⟨(Nat.le_of_ble_eq_true rfl), (Nat.le_of_ble_eq_true rfl)⟩ ⟨(Nat.le_of_ble_eq_true rfl), (Nat.le_of_ble_eq_true rfl)⟩ rfl (Nat.le_of_ble_eq_true rfl) ?_
  refine b_swap ?_
  exact b_lc_eq (tgt := 1245) C dL_law_650 dL_law_651 (by decide) (fun _ => kk σ' τ' h') (fun z => absurd rfl z)
theorem law_input (C : Cb p s m args meth c RL cL_law 4) (X : LC s D A ad ca ad' ca' b L xs) (hi : i + 4 < L) (H : Rl σ τ) (kk : ∀ σ' τ', Rl σ' τ' → bW p l e room_1 s m args below meth c 600000 7302249 Q 4 (wl D A s (wX ad ca) σ' (wM ad' ca' τ')) 1245 (lvL b (ad 0) (ad' 0) i) []) : bW p l e room_1 s m args below meth c 600000 7302249 Q 4 (wl D A s (wX ad ca) σ (wM ad' ca' τ)) 656 (lvL b (ad 0) (ad' 0) i) [] := by
  obtain ⟨v, σ', τ', e1, e2, h'⟩ := ok_input (N := 2000) (Nat.le_refl 2000) H (xs (i + 1)) (bz (xs (i + 2))) (bz (xs (i + 3)))
  refine b_aload_n C 1 dL_law_656 rfl rfl ?_
  refine b_arg C X.2.2.2.2 1 (by omega) dL_law_657 dL_law_658 dL_law_659 rfl dL_law_660 dL_law_661 ?_
  refine b_arg C X.2.2.2.2 2 (by omega) dL_law_662 dL_law_663 dL_law_664 rfl dL_law_665 dL_law_666 ?_
  refine b_tern C dL_law_667 dL_law_670 dL_law_671 dL_law_674 ?_
  refine b_arg C X.2.2.2.2 3 (by omega) dL_law_675 dL_law_676 dL_law_677 rfl dL_law_678 dL_law_679 ?_
  refine b_tern C dL_law_680 dL_law_683 dL_law_684 dL_law_687 ?_
  refine b_callL (v := some (.long v)) (rest := []) C (sameX _ _) X.1 (X.2.2.1 _) dL_law_688 (ctX2_input e1) mf_X2_input mi_X2_input kl_L_80 0 rfl rfl rfl rfl ⟨rfl, rfl⟩ ⟨(Nat.le_of_ble_eq_true rfl), (Nat.le_of_ble_eq_true rfl)⟩ ⟨(Nat.le_of_ble_eq_true rfl), (Nat.le_of_ble_eq_true rfl)⟩ rfl (Nat.le_of_ble_eq_true rfl) ?_
  refine b_swap ?_
  refine b_aload_n C 2 dL_law_691 rfl rfl ?_
  refine b_arg C X.2.2.2.2 1 (by omega) dL_law_692 dL_law_693 dL_law_694 rfl dL_law_695 dL_law_696 ?_
  refine b_arg C X.2.2.2.2 2 (by omega) dL_law_697 dL_law_698 dL_law_699 rfl dL_law_700 dL_law_701 ?_
  refine b_tern C dL_law_702 dL_law_705 dL_law_706 dL_law_709 ?_
  refine b_arg C X.2.2.2.2 3 (by omega) dL_law_710 dL_law_711 dL_law_712 rfl dL_law_713 dL_law_714 ?_
  refine b_tern C dL_law_715 dL_law_718 dL_law_719 dL_law_722 ?_
  refine b_callL (v := some (.long v)) (rest := [.long v]) C (sameM _ _) X.2.1 (X.2.2.2.1 _) dL_law_723 (ctX3_input e2) mf_X3_input mi_X3_input kl_L_84 0 rfl rfl rfl rfl ⟨rfl, rfl⟩ ⟨(Nat.le_of_ble_eq_true rfl), (Nat.le_of_ble_eq_true rfl)⟩ ⟨(Nat.le_of_ble_eq_true rfl), (Nat.le_of_ble_eq_true rfl)⟩ rfl (Nat.le_of_ble_eq_true rfl) ?_
  refine b_swap ?_
  exact b_lc_eq (tgt := 1245) C dL_law_726 dL_law_727 (by decide) (fun _ => kk σ' τ' h') (fun z => absurd rfl z)
theorem law_received (C : Cb p s m args meth c RL cL_law 4) (X : LC s D A ad ca ad' ca' b L xs) (hi : i + 4 < L) (H : Rl σ τ) (kk : ∀ σ' τ', Rl σ' τ' → bW p l e room_1 s m args below meth c 600000 7302249 Q 4 (wl D A s (wX ad ca) σ' (wM ad' ca' τ')) 1245 (lvL b (ad 0) (ad' 0) i) []) : bW p l e room_1 s m args below meth c 600000 7302249 Q 4 (wl D A s (wX ad ca) σ (wM ad' ca' τ)) 732 (lvL b (ad 0) (ad' 0) i) [] := by
  obtain ⟨v, σ', τ', e1, e2, h'⟩ := ok_received (N := 2000) (Nat.le_refl 2000) H (xs (i + 1)) (xs (i + 2)) (bz (xs (i + 3))) (bz (xs (i + 4)))
  refine b_aload_n C 1 dL_law_732 rfl rfl ?_
  refine b_arg C X.2.2.2.2 1 (by omega) dL_law_733 dL_law_734 dL_law_735 rfl dL_law_736 dL_law_737 ?_
  refine b_arg C X.2.2.2.2 2 (by omega) dL_law_738 dL_law_739 dL_law_740 rfl dL_law_741 dL_law_742 ?_
  refine b_arg C X.2.2.2.2 3 (by omega) dL_law_743 dL_law_744 dL_law_745 rfl dL_law_746 dL_law_747 ?_
  refine b_tern C dL_law_748 dL_law_751 dL_law_752 dL_law_755 ?_
  refine b_arg C X.2.2.2.2 4 (by omega) dL_law_756 dL_law_757 dL_law_758 rfl dL_law_759 dL_law_760 ?_
  refine b_tern C dL_law_761 dL_law_764 dL_law_765 dL_law_768 ?_
  refine b_callL (v := some (.long v)) (rest := []) C (sameX _ _) X.1 (X.2.2.1 _) dL_law_769 (ctX2_received e1) mf_X2_received mi_X2_received kl_L_85 0 rfl rfl rfl rfl ⟨rfl, rfl⟩ ⟨(Nat.le_of_ble_eq_true rfl), (Nat.le_of_ble_eq_true rfl)⟩ ⟨(Nat.le_of_ble_eq_true rfl), (Nat.le_of_ble_eq_true rfl)⟩ rfl (Nat.le_of_ble_eq_true rfl) ?_
  refine b_swap ?_
  refine b_aload_n C 2 dL_law_772 rfl rfl ?_
  refine b_arg C X.2.2.2.2 1 (by omega) dL_law_773 dL_law_774 dL_law_775 rfl dL_law_776 dL_law_777 ?_
  refine b_arg C X.2.2.2.2 2 (by omega) dL_law_778 dL_law_779 dL_law_780 rfl dL_law_781 dL_law_782 ?_
  refine b_arg C X.2.2.2.2 3 (by omega) dL_law_783 dL_law_784 dL_law_785 rfl dL_law_786 dL_law_787 ?_
  refine b_tern C dL_law_788 dL_law_791 dL_law_792 dL_law_795 ?_
  refine b_arg C X.2.2.2.2 4 (by omega) dL_law_796 dL_law_797 dL_law_798 rfl dL_law_799 dL_law_800 ?_
  refine b_tern C dL_law_801 dL_law_804 dL_law_805 dL_law_808 ?_
  refine b_callL (v := some (.long v)) (rest := [.long v]) C (sameM _ _) X.2.1 (X.2.2.2.1 _) dL_law_809 (ctX3_received e2) mf_X3_received mi_X3_received kl_L_88 0 rfl rfl rfl rfl ⟨rfl, rfl⟩ ⟨(Nat.le_of_ble_eq_true rfl), (Nat.le_of_ble_eq_true rfl)⟩ ⟨(Nat.le_of_ble_eq_true rfl), (Nat.le_of_ble_eq_true rfl)⟩ rfl (Nat.le_of_ble_eq_true rfl) ?_
  refine b_swap ?_
  exact b_lc_eq (tgt := 1245) C dL_law_812 dL_law_813 (by decide) (fun _ => kk σ' τ' h') (fun z => absurd rfl z)
theorem law_rest (C : Cb p s m args meth c RL cL_law 4) (X : LC s D A ad ca ad' ca' b L xs) (hi : i + 4 < L) (H : Rl σ τ) (kk : ∀ σ' τ', Rl σ' τ' → bW p l e room_1 s m args below meth c 600000 7302249 Q 4 (wl D A s (wX ad ca) σ' (wM ad' ca' τ')) 1245 (lvL b (ad 0) (ad' 0) i) []) : bW p l e room_1 s m args below meth c 600000 7302249 Q 4 (wl D A s (wX ad ca) σ (wM ad' ca' τ)) 818 (lvL b (ad 0) (ad' 0) i) [] := by
  obtain ⟨v, σ', τ', e1, e2, h'⟩ := ok_rest (N := 2000) (Nat.le_refl 2000) H (xs (i + 1)) (xs (i + 2)) (bz (xs (i + 3))) (bz (xs (i + 4)))
  refine b_aload_n C 1 dL_law_818 rfl rfl ?_
  refine b_arg C X.2.2.2.2 1 (by omega) dL_law_819 dL_law_820 dL_law_821 rfl dL_law_822 dL_law_823 ?_
  refine b_arg C X.2.2.2.2 2 (by omega) dL_law_824 dL_law_825 dL_law_826 rfl dL_law_827 dL_law_828 ?_
  refine b_arg C X.2.2.2.2 3 (by omega) dL_law_829 dL_law_830 dL_law_831 rfl dL_law_832 dL_law_833 ?_
  refine b_tern C dL_law_834 dL_law_837 dL_law_838 dL_law_841 ?_
  refine b_arg C X.2.2.2.2 4 (by omega) dL_law_842 dL_law_843 dL_law_844 rfl dL_law_845 dL_law_846 ?_
  refine b_tern C dL_law_847 dL_law_850 dL_law_851 dL_law_854 ?_
  refine b_callL (v := some (.long v)) (rest := []) C (sameX _ _) X.1 (X.2.2.1 _) dL_law_855 (ctX2_rest e1) mf_X2_rest mi_X2_rest kl_L_89 0 rfl rfl rfl rfl ⟨rfl, rfl⟩ ⟨(Nat.le_of_ble_eq_true rfl), (Nat.le_of_ble_eq_true rfl)⟩ ⟨(Nat.le_of_ble_eq_true rfl), (Nat.le_of_ble_eq_true rfl)⟩ rfl (Nat.le_of_ble_eq_true rfl) ?_
  refine b_swap ?_
  refine b_aload_n C 2 dL_law_858 rfl rfl ?_
  refine b_arg C X.2.2.2.2 1 (by omega) dL_law_859 dL_law_860 dL_law_861 rfl dL_law_862 dL_law_863 ?_
  refine b_arg C X.2.2.2.2 2 (by omega) dL_law_864 dL_law_865 dL_law_866 rfl dL_law_867 dL_law_868 ?_
  refine b_arg C X.2.2.2.2 3 (by omega) dL_law_869 dL_law_870 dL_law_871 rfl dL_law_872 dL_law_873 ?_
  refine b_tern C dL_law_874 dL_law_877 dL_law_878 dL_law_881 ?_
  refine b_arg C X.2.2.2.2 4 (by omega) dL_law_882 dL_law_883 dL_law_884 rfl dL_law_885 dL_law_886 ?_
  refine b_tern C dL_law_887 dL_law_890 dL_law_891 dL_law_894 ?_
  refine b_callL (v := some (.long v)) (rest := [.long v]) C (sameM _ _) X.2.1 (X.2.2.2.1 _) dL_law_895 (ctX3_rest e2) mf_X3_rest mi_X3_rest kl_L_92 0 rfl rfl rfl rfl ⟨rfl, rfl⟩ ⟨(Nat.le_of_ble_eq_true rfl), (Nat.le_of_ble_eq_true rfl)⟩ ⟨(Nat.le_of_ble_eq_true rfl), (Nat.le_of_ble_eq_true rfl)⟩ rfl (Nat.le_of_ble_eq_true rfl) ?_
  refine b_swap ?_
  exact b_lc_eq (tgt := 1245) C dL_law_898 dL_law_899 (by decide) (fun _ => kk σ' τ' h') (fun z => absurd rfl z)
theorem law_mostFrequent (C : Cb p s m args meth c RL cL_law 4) (X : LC s D A ad ca ad' ca' b L xs) (hi : i + 4 < L) (H : Rl σ τ) (kk : ∀ σ' τ', Rl σ' τ' → bW p l e room_1 s m args below meth c 600000 7302249 Q 4 (wl D A s (wX ad ca) σ' (wM ad' ca' τ')) 1245 (lvL b (ad 0) (ad' 0) i) []) : bW p l e room_1 s m args below meth c 600000 7302249 Q 4 (wl D A s (wX ad ca) σ (wM ad' ca' τ)) 904 (lvL b (ad 0) (ad' 0) i) [] := by
  obtain ⟨v, σ', τ', e1, e2, h'⟩ := ok_most (N := 2000) (Nat.le_refl 2000) H (xs (i + 1))
  refine b_aload_n C 1 dL_law_904 rfl rfl ?_
  refine b_arg C X.2.2.2.2 1 (by omega) dL_law_905 dL_law_906 dL_law_907 rfl dL_law_908 dL_law_909 ?_
  refine b_callL (v := some (.int v)) (rest := []) C (sameX _ _) X.1 (X.2.2.1 _) dL_law_910 (ctX2_mostFrequent e1) mf_X2_mostFrequent mi_X2_mostFrequent kl_L_93 0 rfl rfl rfl rfl ⟨rfl, rfl⟩ ⟨(Nat.le_of_ble_eq_true rfl), (Nat.le_of_ble_eq_true rfl)⟩ ⟨(Nat.le_of_ble_eq_true rfl), (Nat.le_of_ble_eq_true rfl)⟩ rfl (Nat.le_of_ble_eq_true rfl) ?_
  refine b_swap ?_
  refine b_aload_n C 2 dL_law_913 rfl rfl ?_
  refine b_arg C X.2.2.2.2 1 (by omega) dL_law_914 dL_law_915 dL_law_916 rfl dL_law_917 dL_law_918 ?_
  refine b_callL (v := some (.int v)) (rest := [.int v]) C (sameM _ _) X.2.1 (X.2.2.2.1 _) dL_law_919 (ctX3_mostFrequent e2) mf_X3_mostFrequent mi_X3_mostFrequent kl_L_96 0 rfl rfl rfl rfl ⟨rfl, rfl⟩ ⟨(Nat.le_of_ble_eq_true rfl), (Nat.le_of_ble_eq_true rfl)⟩ ⟨(Nat.le_of_ble_eq_true rfl), (Nat.le_of_ble_eq_true rfl)⟩ rfl (Nat.le_of_ble_eq_true rfl) ?_
  refine b_swap ?_
  exact b_icmp_eq (tgt := 1245) C dL_law_922 (by decide) (fun _ => kk σ' τ' h') (fun z => absurd rfl z)
theorem law_width (C : Cb p s m args meth c RL cL_law 4) (X : LC s D A ad ca ad' ca' b L xs) (hi : i + 4 < L) (H : Rl σ τ) (kk : ∀ σ' τ', Rl σ' τ' → bW p l e room_1 s m args below meth c 600000 7302249 Q 4 (wl D A s (wX ad ca) σ' (wM ad' ca' τ')) 1245 (lvL b (ad 0) (ad' 0) i) []) : bW p l e room_1 s m args below meth c 600000 7302249 Q 4 (wl D A s (wX ad ca) σ (wM ad' ca' τ)) 927 (lvL b (ad 0) (ad' 0) i) [] := by
  obtain ⟨v, σ', τ', e1, e2, h'⟩ := ok_width (N := 2000) (Nat.le_refl 2000) H (xs (i + 1)) (bz (xs (i + 2)))
  refine b_aload_n C 1 dL_law_927 rfl rfl ?_
  refine b_arg C X.2.2.2.2 1 (by omega) dL_law_928 dL_law_929 dL_law_930 rfl dL_law_931 dL_law_932 ?_
  refine b_arg C X.2.2.2.2 2 (by omega) dL_law_933 dL_law_934 dL_law_935 rfl dL_law_936 dL_law_937 ?_
  refine b_tern C dL_law_938 dL_law_941 dL_law_942 dL_law_945 ?_
  refine b_callL (v := some (.long v)) (rest := []) C (sameX _ _) X.1 (X.2.2.1 _) dL_law_946 (ctX2_width e1) mf_X2_width mi_X2_width kl_L_97 0 rfl rfl rfl rfl ⟨rfl, rfl⟩ ⟨(Nat.le_of_ble_eq_true rfl), (Nat.le_of_ble_eq_true rfl)⟩ ⟨(Nat.le_of_ble_eq_true rfl), (Nat.le_of_ble_eq_true rfl)⟩ rfl (Nat.le_of_ble_eq_true rfl) ?_
  refine b_swap ?_
  refine b_aload_n C 2 dL_law_949 rfl rfl ?_
  refine b_arg C X.2.2.2.2 1 (by omega) dL_law_950 dL_law_951 dL_law_952 rfl dL_law_953 dL_law_954 ?_
  refine b_arg C X.2.2.2.2 2 (by omega) dL_law_955 dL_law_956 dL_law_957 rfl dL_law_958 dL_law_959 ?_
  refine b_tern C dL_law_960 dL_law_963 dL_law_964 dL_law_967 ?_
  refine b_callL (v := some (.long v)) (rest := [.long v]) C (sameM _ _) X.2.1 (X.2.2.2.1 _) dL_law_968 (ctX3_width e2) mf_X3_width mi_X3_width kl_L_101 0 rfl rfl rfl rfl ⟨rfl, rfl⟩ ⟨(Nat.le_of_ble_eq_true rfl), (Nat.le_of_ble_eq_true rfl)⟩ ⟨(Nat.le_of_ble_eq_true rfl), (Nat.le_of_ble_eq_true rfl)⟩ rfl (Nat.le_of_ble_eq_true rfl) ?_
  refine b_swap ?_
  exact b_lc_eq (tgt := 1245) C dL_law_971 dL_law_972 (by decide) (fun _ => kk σ' τ' h') (fun z => absurd rfl z)
theorem law_rate (C : Cb p s m args meth c RL cL_law 4) (X : LC s D A ad ca ad' ca' b L xs) (hi : i + 4 < L) (H : Rl σ τ) (kk : ∀ σ' τ', Rl σ' τ' → bW p l e room_1 s m args below meth c 600000 7302249 Q 4 (wl D A s (wX ad ca) σ' (wM ad' ca' τ')) 1245 (lvL b (ad 0) (ad' 0) i) []) : bW p l e room_1 s m args below meth c 600000 7302249 Q 4 (wl D A s (wX ad ca) σ (wM ad' ca' τ)) 977 (lvL b (ad 0) (ad' 0) i) [] := by
  obtain ⟨v, σ', τ', e1, e2, h'⟩ := ok_rate (N := 2000) (Nat.le_refl 2000) H (xs (i + 1)) (bz (xs (i + 2)))
  refine b_aload_n C 1 dL_law_977 rfl rfl ?_
  refine b_arg C X.2.2.2.2 1 (by omega) dL_law_978 dL_law_979 dL_law_980 rfl dL_law_981 dL_law_982 ?_
  refine b_arg C X.2.2.2.2 2 (by omega) dL_law_983 dL_law_984 dL_law_985 rfl dL_law_986 dL_law_987 ?_
  refine b_tern C dL_law_988 dL_law_991 dL_law_992 dL_law_995 ?_
  refine b_callL (v := some (.long v)) (rest := []) C (sameX _ _) X.1 (X.2.2.1 _) dL_law_996 (ctX2_rate e1) mf_X2_rate mi_X2_rate kl_L_102 0 rfl rfl rfl rfl ⟨rfl, rfl⟩ ⟨(Nat.le_of_ble_eq_true rfl), (Nat.le_of_ble_eq_true rfl)⟩ ⟨(Nat.le_of_ble_eq_true rfl), (Nat.le_of_ble_eq_true rfl)⟩ rfl (Nat.le_of_ble_eq_true rfl) ?_
  refine b_swap ?_
  refine b_aload_n C 2 dL_law_999 rfl rfl ?_
  refine b_arg C X.2.2.2.2 1 (by omega) dL_law_1000 dL_law_1001 dL_law_1002 rfl dL_law_1003 dL_law_1004 ?_
  refine b_arg C X.2.2.2.2 2 (by omega) dL_law_1005 dL_law_1006 dL_law_1007 rfl dL_law_1008 dL_law_1009 ?_
  refine b_tern C dL_law_1010 dL_law_1013 dL_law_1014 dL_law_1017 ?_
  refine b_callL (v := some (.long v)) (rest := [.long v]) C (sameM _ _) X.2.1 (X.2.2.2.1 _) dL_law_1018 (ctX3_rate e2) mf_X3_rate mi_X3_rate kl_L_105 0 rfl rfl rfl rfl ⟨rfl, rfl⟩ ⟨(Nat.le_of_ble_eq_true rfl), (Nat.le_of_ble_eq_true rfl)⟩ ⟨(Nat.le_of_ble_eq_true rfl), (Nat.le_of_ble_eq_true rfl)⟩ rfl (Nat.le_of_ble_eq_true rfl) ?_
  refine b_swap ?_
  exact b_lc_eq (tgt := 1245) C dL_law_1021 dL_law_1022 (by decide) (fun _ => kk σ' τ' h') (fun z => absurd rfl z)
theorem law_guarantee (C : Cb p s m args meth c RL cL_law 4) (X : LC s D A ad ca ad' ca' b L xs) (hi : i + 4 < L) (H : Rl σ τ) (kk : ∀ σ' τ', Rl σ' τ' → bW p l e room_1 s m args below meth c 600000 7302249 Q 4 (wl D A s (wX ad ca) σ' (wM ad' ca' τ')) 1245 (lvL b (ad 0) (ad' 0) i) []) : bW p l e room_1 s m args below meth c 600000 7302249 Q 4 (wl D A s (wX ad ca) σ (wM ad' ca' τ)) 1027 (lvL b (ad 0) (ad' 0) i) [] := by
  obtain ⟨v, σ', τ', e1, e2, h'⟩ := ok_guarantee (N := 2000) (Nat.le_refl 2000) H (bz (xs (i + 1)))
  refine b_aload_n C 1 dL_law_1027 rfl rfl ?_
  refine b_arg C X.2.2.2.2 1 (by omega) dL_law_1028 dL_law_1029 dL_law_1030 rfl dL_law_1031 dL_law_1032 ?_
  refine b_tern C dL_law_1033 dL_law_1036 dL_law_1037 dL_law_1040 ?_
  refine b_callL (v := some (.long v)) (rest := []) C (sameX _ _) X.1 (X.2.2.1 _) dL_law_1041 (ctX2_guarantee e1) mf_X2_guarantee mi_X2_guarantee kl_L_106 0 rfl rfl rfl rfl ⟨rfl, rfl⟩ ⟨(Nat.le_of_ble_eq_true rfl), (Nat.le_of_ble_eq_true rfl)⟩ ⟨(Nat.le_of_ble_eq_true rfl), (Nat.le_of_ble_eq_true rfl)⟩ rfl (Nat.le_of_ble_eq_true rfl) ?_
  refine b_swap ?_
  refine b_aload_n C 2 dL_law_1044 rfl rfl ?_
  refine b_arg C X.2.2.2.2 1 (by omega) dL_law_1045 dL_law_1046 dL_law_1047 rfl dL_law_1048 dL_law_1049 ?_
  refine b_tern C dL_law_1050 dL_law_1053 dL_law_1054 dL_law_1057 ?_
  refine b_callL (v := some (.long v)) (rest := [.long v]) C (sameM _ _) X.2.1 (X.2.2.2.1 _) dL_law_1058 (ctX3_guarantee e2) mf_X3_guarantee mi_X3_guarantee kl_L_110 0 rfl rfl rfl rfl ⟨rfl, rfl⟩ ⟨(Nat.le_of_ble_eq_true rfl), (Nat.le_of_ble_eq_true rfl)⟩ ⟨(Nat.le_of_ble_eq_true rfl), (Nat.le_of_ble_eq_true rfl)⟩ rfl (Nat.le_of_ble_eq_true rfl) ?_
  refine b_swap ?_
  exact b_lc_eq (tgt := 1245) C dL_law_1061 dL_law_1062 (by decide) (fun _ => kk σ' τ' h') (fun z => absurd rfl z)
theorem law_hull (C : Cb p s m args meth c RL cL_law 4) (X : LC s D A ad ca ad' ca' b L xs) (hi : i + 4 < L) (H : Rl σ τ) (kk : ∀ σ' τ', Rl σ' τ' → bW p l e room_1 s m args below meth c 600000 7302249 Q 4 (wl D A s (wX ad ca) σ' (wM ad' ca' τ')) 1245 (lvL b (ad 0) (ad' 0) i) []) : bW p l e room_1 s m args below meth c 600000 7302249 Q 4 (wl D A s (wX ad ca) σ (wM ad' ca' τ)) 1067 (lvL b (ad 0) (ad' 0) i) [] := by
  obtain ⟨v, σ', τ', e1, e2, h'⟩ := ok_hull (N := 2000) (Nat.le_refl 2000) H (bz (xs (i + 1))) (bz (xs (i + 2)))
  refine b_aload_n C 1 dL_law_1067 rfl rfl ?_
  refine b_arg C X.2.2.2.2 1 (by omega) dL_law_1068 dL_law_1069 dL_law_1070 rfl dL_law_1071 dL_law_1072 ?_
  refine b_tern C dL_law_1073 dL_law_1076 dL_law_1077 dL_law_1080 ?_
  refine b_arg C X.2.2.2.2 2 (by omega) dL_law_1081 dL_law_1082 dL_law_1083 rfl dL_law_1084 dL_law_1085 ?_
  refine b_tern C dL_law_1086 dL_law_1089 dL_law_1090 dL_law_1093 ?_
  refine b_callL (v := some (.long v)) (rest := []) C (sameX _ _) X.1 (X.2.2.1 _) dL_law_1094 (ctX2_hull e1) mf_X2_hull mi_X2_hull kl_L_111 0 rfl rfl rfl rfl ⟨rfl, rfl⟩ ⟨(Nat.le_of_ble_eq_true rfl), (Nat.le_of_ble_eq_true rfl)⟩ ⟨(Nat.le_of_ble_eq_true rfl), (Nat.le_of_ble_eq_true rfl)⟩ rfl (Nat.le_of_ble_eq_true rfl) ?_
  refine b_swap ?_
  refine b_aload_n C 2 dL_law_1097 rfl rfl ?_
  refine b_arg C X.2.2.2.2 1 (by omega) dL_law_1098 dL_law_1099 dL_law_1100 rfl dL_law_1101 dL_law_1102 ?_
  refine b_tern C dL_law_1103 dL_law_1106 dL_law_1107 dL_law_1110 ?_
  refine b_arg C X.2.2.2.2 2 (by omega) dL_law_1111 dL_law_1112 dL_law_1113 rfl dL_law_1114 dL_law_1115 ?_
  refine b_tern C dL_law_1116 dL_law_1119 dL_law_1120 dL_law_1123 ?_
  refine b_callL (v := some (.long v)) (rest := [.long v]) C (sameM _ _) X.2.1 (X.2.2.2.1 _) dL_law_1124 (ctX3_hull e2) mf_X3_hull mi_X3_hull kl_L_115 0 rfl rfl rfl rfl ⟨rfl, rfl⟩ ⟨(Nat.le_of_ble_eq_true rfl), (Nat.le_of_ble_eq_true rfl)⟩ ⟨(Nat.le_of_ble_eq_true rfl), (Nat.le_of_ble_eq_true rfl)⟩ rfl (Nat.le_of_ble_eq_true rfl) ?_
  refine b_swap ?_
  exact b_lc_eq (tgt := 1245) C dL_law_1127 dL_law_1128 (by decide) (fun _ => kk σ' τ' h') (fun z => absurd rfl z)
theorem law_outside (C : Cb p s m args meth c RL cL_law 4) (X : LC s D A ad ca ad' ca' b L xs) (hi : i + 4 < L) (H : Rl σ τ) (kk : ∀ σ' τ', Rl σ' τ' → bW p l e room_1 s m args below meth c 600000 7302249 Q 4 (wl D A s (wX ad ca) σ' (wM ad' ca' τ')) 1245 (lvL b (ad 0) (ad' 0) i) []) : bW p l e room_1 s m args below meth c 600000 7302249 Q 4 (wl D A s (wX ad ca) σ (wM ad' ca' τ)) 1133 (lvL b (ad 0) (ad' 0) i) [] := by
  obtain ⟨v, σ', τ', e1, e2, h'⟩ := ok_outside (N := 2000) (Nat.le_refl 2000) H 
  refine b_aload_n C 1 dL_law_1133 rfl rfl ?_
  refine b_callL (v := some (.int v)) (rest := []) C (sameX _ _) X.1 (X.2.2.1 _) dL_law_1134 (ctX2_outside e1) mf_X2_outside mi_X2_outside kl_L_116 0 rfl rfl rfl rfl ⟨rfl, rfl⟩ ⟨(Nat.le_of_ble_eq_true rfl), (Nat.le_of_ble_eq_true rfl)⟩ ⟨(Nat.le_of_ble_eq_true rfl), (Nat.le_of_ble_eq_true rfl)⟩ rfl (Nat.le_of_ble_eq_true rfl) ?_
  refine b_swap ?_
  refine b_aload_n C 2 dL_law_1137 rfl rfl ?_
  refine b_callL (v := some (.int v)) (rest := [.int v]) C (sameM _ _) X.2.1 (X.2.2.2.1 _) dL_law_1138 (ctX3_outside e2) mf_X3_outside mi_X3_outside kl_L_119 0 rfl rfl rfl rfl ⟨rfl, rfl⟩ ⟨(Nat.le_of_ble_eq_true rfl), (Nat.le_of_ble_eq_true rfl)⟩ ⟨(Nat.le_of_ble_eq_true rfl), (Nat.le_of_ble_eq_true rfl)⟩ rfl (Nat.le_of_ble_eq_true rfl) ?_
  refine b_swap ?_
  exact b_icmp_eq (tgt := 1245) C dL_law_1141 (by decide) (fun _ => kk σ' τ' h') (fun z => absurd rfl z)
theorem law_roundsTo (C : Cb p s m args meth c RL cL_law 4) (X : LC s D A ad ca ad' ca' b L xs) (hi : i + 4 < L) (H : Rl σ τ) (kk : ∀ σ' τ', Rl σ' τ' → bW p l e room_1 s m args below meth c 600000 7302249 Q 4 (wl D A s (wX ad ca) σ' (wM ad' ca' τ')) 1245 (lvL b (ad 0) (ad' 0) i) []) : bW p l e room_1 s m args below meth c 600000 7302249 Q 4 (wl D A s (wX ad ca) σ (wM ad' ca' τ)) 1146 (lvL b (ad 0) (ad' 0) i) [] := by
  obtain ⟨v, σ', τ', e1, e2, h'⟩ := ok_roundsTo (N := 2000) (Nat.le_refl 2000) H (xs (i + 1)) (xs (i + 2)) (xs (i + 3))
  refine b_aload_n C 1 dL_law_1146 rfl rfl ?_
  refine b_arg C X.2.2.2.2 1 (by omega) dL_law_1147 dL_law_1148 dL_law_1149 rfl dL_law_1150 dL_law_1151 ?_
  refine b_arg C X.2.2.2.2 2 (by omega) dL_law_1152 dL_law_1153 dL_law_1154 rfl dL_law_1155 dL_law_1156 ?_
  refine b_arg C X.2.2.2.2 3 (by omega) dL_law_1157 dL_law_1158 dL_law_1159 rfl dL_law_1160 dL_law_1161 ?_
  refine b_callL (v := some (.int v)) (rest := []) C (sameX _ _) X.1 (X.2.2.1 _) dL_law_1162 (ctX2_roundsTo e1) mf_X2_roundsTo mi_X2_roundsTo kl_L_120 0 rfl rfl rfl rfl ⟨rfl, rfl⟩ ⟨(Nat.le_of_ble_eq_true rfl), (Nat.le_of_ble_eq_true rfl)⟩ ⟨(Nat.le_of_ble_eq_true rfl), (Nat.le_of_ble_eq_true rfl)⟩ rfl (Nat.le_of_ble_eq_true rfl) ?_
  refine b_swap ?_
  refine b_aload_n C 2 dL_law_1165 rfl rfl ?_
  refine b_arg C X.2.2.2.2 1 (by omega) dL_law_1166 dL_law_1167 dL_law_1168 rfl dL_law_1169 dL_law_1170 ?_
  refine b_arg C X.2.2.2.2 2 (by omega) dL_law_1171 dL_law_1172 dL_law_1173 rfl dL_law_1174 dL_law_1175 ?_
  refine b_arg C X.2.2.2.2 3 (by omega) dL_law_1176 dL_law_1177 dL_law_1178 rfl dL_law_1179 dL_law_1180 ?_
  refine b_callL (v := some (.int v)) (rest := [.int v]) C (sameM _ _) X.2.1 (X.2.2.2.1 _) dL_law_1181 (ctX3_roundsTo e2) mf_X3_roundsTo mi_X3_roundsTo kl_L_123 0 rfl rfl rfl rfl ⟨rfl, rfl⟩ ⟨(Nat.le_of_ble_eq_true rfl), (Nat.le_of_ble_eq_true rfl)⟩ ⟨(Nat.le_of_ble_eq_true rfl), (Nat.le_of_ble_eq_true rfl)⟩ rfl (Nat.le_of_ble_eq_true rfl) ?_
  refine b_swap ?_
  exact b_icmp_eq (tgt := 1245) C dL_law_1184 (by decide) (fun _ => kk σ' τ' h') (fun z => absurd rfl z)
theorem law_worstStrategy (C : Cb p s m args meth c RL cL_law 4) (X : LC s D A ad ca ad' ca' b L xs) (hi : i + 4 < L) (H : Rl σ τ) (kk : ∀ σ' τ', Rl σ' τ' → bW p l e room_1 s m args below meth c 600000 7302249 Q 4 (wl D A s (wX ad ca) σ' (wM ad' ca' τ')) 1245 (lvL b (ad 0) (ad' 0) i) []) : bW p l e room_1 s m args below meth c 600000 7302249 Q 4 (wl D A s (wX ad ca) σ (wM ad' ca' τ)) 1189 (lvL b (ad 0) (ad' 0) i) [] := by
  obtain ⟨v, σ', τ', e1, e2, h'⟩ := ok_worst (N := 2000) (Nat.le_refl 2000) H (xs (i + 1)) (xs (i + 2))
  refine b_aload_n C 1 dL_law_1189 rfl rfl ?_
  refine b_arg C X.2.2.2.2 1 (by omega) dL_law_1190 dL_law_1191 dL_law_1192 rfl dL_law_1193 dL_law_1194 ?_
  refine b_arg C X.2.2.2.2 2 (by omega) dL_law_1195 dL_law_1196 dL_law_1197 rfl dL_law_1198 dL_law_1199 ?_
  refine b_callL (v := some (.int v)) (rest := []) C (sameX _ _) X.1 (X.2.2.1 _) dL_law_1200 (ctX2_worstStrategy e1) mf_X2_worstStrategy mi_X2_worstStrategy kl_L_124 0 rfl rfl rfl rfl ⟨rfl, rfl⟩ ⟨(Nat.le_of_ble_eq_true rfl), (Nat.le_of_ble_eq_true rfl)⟩ ⟨(Nat.le_of_ble_eq_true rfl), (Nat.le_of_ble_eq_true rfl)⟩ rfl (Nat.le_of_ble_eq_true rfl) ?_
  refine b_swap ?_
  refine b_aload_n C 2 dL_law_1203 rfl rfl ?_
  refine b_arg C X.2.2.2.2 1 (by omega) dL_law_1204 dL_law_1205 dL_law_1206 rfl dL_law_1207 dL_law_1208 ?_
  refine b_arg C X.2.2.2.2 2 (by omega) dL_law_1209 dL_law_1210 dL_law_1211 rfl dL_law_1212 dL_law_1213 ?_
  refine b_callL (v := some (.int v)) (rest := [.int v]) C (sameM _ _) X.2.1 (X.2.2.2.1 _) dL_law_1214 (ctX3_worstStrategy e2) mf_X3_worstStrategy mi_X3_worstStrategy kl_L_127 0 rfl rfl rfl rfl ⟨rfl, rfl⟩ ⟨(Nat.le_of_ble_eq_true rfl), (Nat.le_of_ble_eq_true rfl)⟩ ⟨(Nat.le_of_ble_eq_true rfl), (Nat.le_of_ble_eq_true rfl)⟩ rfl (Nat.le_of_ble_eq_true rfl) ?_
  refine b_swap ?_
  exact b_icmp_eq (tgt := 1245) C dL_law_1217 (by decide) (fun _ => kk σ' τ' h') (fun z => absurd rfl z)
theorem law_bestRule (C : Cb p s m args meth c RL cL_law 4) (X : LC s D A ad ca ad' ca' b L xs) (hi : i + 4 < L) (H : Rl σ τ) (kk : ∀ σ' τ', Rl σ' τ' → bW p l e room_1 s m args below meth c 600000 7302249 Q 4 (wl D A s (wX ad ca) σ' (wM ad' ca' τ')) 1245 (lvL b (ad 0) (ad' 0) i) []) : bW p l e room_1 s m args below meth c 600000 7302249 Q 4 (wl D A s (wX ad ca) σ (wM ad' ca' τ)) 1222 (lvL b (ad 0) (ad' 0) i) [] := by
  obtain ⟨v, σ', τ', e1, e2, h'⟩ := ok_best (N := 2000) (Nat.le_refl 2000) H (xs (i + 1))
  refine b_aload_n C 1 dL_law_1222 rfl rfl ?_
  refine b_arg C X.2.2.2.2 1 (by omega) dL_law_1223 dL_law_1224 dL_law_1225 rfl dL_law_1226 dL_law_1227 ?_
  refine b_callL (v := some (.int v)) (rest := []) C (sameX _ _) X.1 (X.2.2.1 _) dL_law_1228 (ctX2_bestRule e1) mf_X2_bestRule mi_X2_bestRule kl_L_128 0 rfl rfl rfl rfl ⟨rfl, rfl⟩ ⟨(Nat.le_of_ble_eq_true rfl), (Nat.le_of_ble_eq_true rfl)⟩ ⟨(Nat.le_of_ble_eq_true rfl), (Nat.le_of_ble_eq_true rfl)⟩ rfl (Nat.le_of_ble_eq_true rfl) ?_
  refine b_swap ?_
  refine b_aload_n C 2 dL_law_1231 rfl rfl ?_
  refine b_arg C X.2.2.2.2 1 (by omega) dL_law_1232 dL_law_1233 dL_law_1234 rfl dL_law_1235 dL_law_1236 ?_
  refine b_callL (v := some (.int v)) (rest := [.int v]) C (sameM _ _) X.2.1 (X.2.2.2.1 _) dL_law_1237 (ctX3_bestRule e2) mf_X3_bestRule mi_X3_bestRule kl_L_131 0 rfl rfl rfl rfl ⟨rfl, rfl⟩ ⟨(Nat.le_of_ble_eq_true rfl), (Nat.le_of_ble_eq_true rfl)⟩ ⟨(Nat.le_of_ble_eq_true rfl), (Nat.le_of_ble_eq_true rfl)⟩ rfl (Nat.le_of_ble_eq_true rfl) ?_
  refine b_swap ?_
  exact b_icmp_eq (tgt := 1245) C dL_law_1240 (by decide) (fun _ => kk σ' τ' h') (fun z => absurd rfl z)
end
