section
variable {p : Program} {l : Launch} {e : Env} {R : Room} {s : State} {m : MethodId} {args : Array Value} {below : List Frame} {meth : Method} {c : Code} {cells slots : Nat} {Q : State → Prop}
variable {D : va_G} {A : Nat → Prop} {tys : TyL} {own : String} {cc : ByteArray} {nL : Nat} {σ τ : St} {pc : Nat} {lv : List (Nat × Value)} {rest : List Value} {ad : Nat → Nat} {ca : Nat → ClassId} {ad' : Nat → Nat} {ca' : Nat → ClassId} {b L i : Nat} {xs : Nat → Int32}
/-- behind a call: five on, and again -/
theorem law_tail (C : Cb p s m args meth c RL cL_law 4) {Wd : Heap → List Loc → Prop} {x1 x2 : Nat} (kk : bW p l e R s m args below meth c cells slots Q 4 Wd 18 (lvL b x1 x2 (i + 5)) []) : bW p l e R s m args below meth c cells slots Q 4 Wd 1245 (lvL b x1 x2 i) [] := by
  refine b_iinc (v := nI (i + 5)) (lv' := [(3, .int (nI (i + 5))), (0, .ref b), (1, .ref x1), (2, .ref x2)]) C 3 dL_law_1245 rfl (nI_add i 5) (by decide) rfl ?_
  refine b_goto (tgt := 18) C dL_law_1248 (by decide) ?_
  exact b_sub [1, 2, 3, 0] rfl kk
theorem law_loop (C : Cb p s m args meth c RL cL_law 4) (X : LC s D A ad ca ad' ca' b L xs) (hend : ∀ (σ τ : St) (i : Nat), bW p l e room_1 s m args below meth c 600000 7302249 Q 4 (wl D A s (wX ad ca) σ (wM ad' ca' τ)) 1251 (lvL b (ad 0) (ad' 0) i) []) : ∀ (k i : Nat) (σ τ : St), L ≤ i + k → i ≤ 2560 → Rl σ τ → bW p l e room_1 s m args below meth c 600000 7302249 Q 4 (wl D A s (wX ad ca) σ (wM ad' ca' τ)) 18 (lvL b (ad 0) (ad' 0) i) [] := by
  have hL := X.2.2.2.2.2.2.2
  have head : ∀ (i : Nat) (σ τ : St), i ≤ 2560 → (i + 4 < L → bW p l e room_1 s m args below meth c 600000 7302249 Q 4 (wl D A s (wX ad ca) σ (wM ad' ca' τ)) 26 (lvL b (ad 0) (ad' 0) i) []) → bW p l e room_1 s m args below meth c 600000 7302249 Q 4 (wl D A s (wX ad ca) σ (wM ad' ca' τ)) 18 (lvL b (ad 0) (ad' 0) i) [] := by
    intro i σ τ hi k
    refine b_iload_n C 3 dL_law_18 rfl rfl ?_
    refine b_aload_n C 0 dL_law_19 rfl rfl ?_
    refine b_slen C X.2.2.2.2 dL_law_20 ?_
    refine b_iconst (v := nI 5) C dL_law_21 (by decide) ?_
    refine b_isub C dL_law_22 ?_
    refine b_icmp_gt (tgt := 1251) C dL_law_23 (by decide) (fun _ => hend σ τ i) (fun z => k ?_)
    rw [fa_lt, pk_sub_toInt (by omega) (by omega), nI_toInt (by omega)] at z
    omega
  intro k
  induction k with
  | zero => exact fun i σ τ hk hi H => head i σ τ hi (fun z => by omega)
  | succ k ih =>
    intro i σ τ hk hi H
    refine head i σ τ hi (fun hl => ?_)
    have kk : ∀ σ' τ', Rl σ' τ' → bW p l e room_1 s m args below meth c 600000 7302249 Q 4 (wl D A s (wX ad ca) σ' (wM ad' ca' τ')) 1245 (lvL b (ad 0) (ad' 0) i) [] := fun σ' τ' h' => law_tail C (ih (i + 5) σ' τ' (by omega) (by omega) h')
    refine b_aload_n C 0 dL_law_26 rfl rfl ?_
    refine b_iload_n C 3 dL_law_27 rfl rfl ?_
    refine b_sld C X.2.2.2.2 (j := i) (by omega) dL_law_28 ?_
    refine b_bipush (v := 31) C dL_law_29 (by decide) ?_
    refine b_iand C dL_law_31 ?_
    obtain ⟨j, hj, ej⟩ := pk_andE (xs i) (m := 31) 5 (by decide)
    rw [ej]
    rcases (show j = 0 ∨ j = 1 ∨ j = 2 ∨ j = 3 ∨ j = 4 ∨ j = 5 ∨ j = 6 ∨ j = 7 ∨ j = 8 ∨ j = 9 ∨ j = 10 ∨ j = 11 ∨ j = 12 ∨ j = 13 ∨ j = 14 ∨ j = 15 ∨ j = 16 ∨ j = 17 ∨ j = 18 ∨ j = 19 ∨ j = 20 ∨ j = 21 ∨ j = 22 ∨ j = 23 ∨ j = 24 ∨ j = 25 ∨ j = 26 ∨ 26 < j by omega) with rfl | rfl | rfl | rfl | rfl | rfl | rfl | rfl | rfl | rfl | rfl | rfl | rfl | rfl | rfl | rfl | rfl | rfl | rfl | rfl | rfl | rfl | rfl | rfl | rfl | rfl | rfl | hj2
    · exact b_tswIn (off := 124) (tgt := 156) (kx := nI 0) C dL_law_32 rfl (by decide) (by decide) (by decide) (by decide) (law_reset C X hl H kk)
    · exact b_tswIn (off := 167) (tgt := 199) (kx := nI 1) C dL_law_32 rfl (by decide) (by decide) (by decide) (by decide) (law_type C X hl H kk)
    · exact b_tswIn (off := 192) (tgt := 224) (kx := nI 2) C dL_law_32 rfl (by decide) (by decide) (by decide) (by decide) (law_clearText C X hl H kk)
    · exact b_tswIn (off := 205) (tgt := 237) (kx := nI 3) C dL_law_32 rfl (by decide) (by decide) (by decide) (by decide) (law_readInput C X hl H kk)
    · exact b_tswIn (off := 228) (tgt := 260) (kx := nI 4) C dL_law_32 rfl (by decide) (by decide) (by decide) (by decide) (law_readLie C X hl H kk)
    · exact b_tswIn (off := 261) (tgt := 293) (kx := nI 5) C dL_law_32 rfl (by decide) (by decide) (by decide) (by decide) (law_setFaulty C X hl H kk)
    · exact b_tswIn (off := 314) (tgt := 346) (kx := nI 6) C dL_law_32 rfl (by decide) (by decide) (by decide) (by decide) (law_setCorrect C X hl H kk)
    · exact b_tswIn (off := 337) (tgt := 369) (kx := nI 7) C dL_law_32 rfl (by decide) (by decide) (by decide) (by decide) (law_setLink C X hl H kk)
    · exact b_tswIn (off := 380) (tgt := 412) (kx := nI 8) C dL_law_32 rfl (by decide) (by decide) (by decide) (by decide) (law_setRule C X hl H kk)
    · exact b_tswIn (off := 403) (tgt := 435) (kx := nI 9) C dL_law_32 rfl (by decide) (by decide) (by decide) (by decide) (law_count C X hl H kk)
    · exact b_tswIn (off := 426) (tgt := 458) (kx := nI 10) C dL_law_32 rfl (by decide) (by decide) (by decide) (by decide) (law_strategy C X hl H kk)
    · exact b_tswIn (off := 449) (tgt := 481) (kx := nI 11) C dL_law_32 rfl (by decide) (by decide) (by decide) (by decide) (law_run C X hl H kk)
    · exact b_tswIn (off := 472) (tgt := 504) (kx := nI 12) C dL_law_32 rfl (by decide) (by decide) (by decide) (by decide) (law_runTo C X hl H kk)
    · exact b_tswIn (off := 515) (tgt := 547) (kx := nI 13) C dL_law_32 rfl (by decide) (by decide) (by decide) (by decide) (law_back C X hl H kk)
    · exact b_tswIn (off := 538) (tgt := 570) (kx := nI 14) C dL_law_32 rfl (by decide) (by decide) (by decide) (by decide) (law_value C X hl H kk)
    · exact b_tswIn (off := 624) (tgt := 656) (kx := nI 15) C dL_law_32 rfl (by decide) (by decide) (by decide) (by decide) (law_input C X hl H kk)
    · exact b_tswIn (off := 700) (tgt := 732) (kx := nI 16) C dL_law_32 rfl (by decide) (by decide) (by decide) (by decide) (law_received C X hl H kk)
    · exact b_tswIn (off := 786) (tgt := 818) (kx := nI 17) C dL_law_32 rfl (by decide) (by decide) (by decide) (by decide) (law_rest C X hl H kk)
    · exact b_tswIn (off := 872) (tgt := 904) (kx := nI 18) C dL_law_32 rfl (by decide) (by decide) (by decide) (by decide) (law_mostFrequent C X hl H kk)
    · exact b_tswIn (off := 895) (tgt := 927) (kx := nI 19) C dL_law_32 rfl (by decide) (by decide) (by decide) (by decide) (law_width C X hl H kk)
    · exact b_tswIn (off := 945) (tgt := 977) (kx := nI 20) C dL_law_32 rfl (by decide) (by decide) (by decide) (by decide) (law_rate C X hl H kk)
    · exact b_tswIn (off := 995) (tgt := 1027) (kx := nI 21) C dL_law_32 rfl (by decide) (by decide) (by decide) (by decide) (law_guarantee C X hl H kk)
    · exact b_tswIn (off := 1035) (tgt := 1067) (kx := nI 22) C dL_law_32 rfl (by decide) (by decide) (by decide) (by decide) (law_hull C X hl H kk)
    · exact b_tswIn (off := 1101) (tgt := 1133) (kx := nI 23) C dL_law_32 rfl (by decide) (by decide) (by decide) (by decide) (law_outside C X hl H kk)
    · exact b_tswIn (off := 1114) (tgt := 1146) (kx := nI 24) C dL_law_32 rfl (by decide) (by decide) (by decide) (by decide) (law_roundsTo C X hl H kk)
    · exact b_tswIn (off := 1157) (tgt := 1189) (kx := nI 25) C dL_law_32 rfl (by decide) (by decide) (by decide) (by decide) (law_worstStrategy C X hl H kk)
    · exact b_tswIn (off := 1190) (tgt := 1222) (kx := nI 26) C dL_law_32 rfl (by decide) (by decide) (by decide) (by decide) (law_bestRule C X hl H kk)
    · exact b_tswOut (tgt := 1245) C dL_law_32 (Or.inr (by rw [nI_toInt (by omega)]; omega)) (by decide) (kk σ τ H)
/-- the two worlds, made -/
theorem b_law {tysx : TyL} (hA : ∀ q, s.heap.size ≤ q → A q) (hX : Kx D tysx s) (hK : va_K D cls (tyX ca ++ tyM ca') s) (S : Sc s A b L xs) (k : LC s D A ad ca ad' ca' b L xs → bW p l e R s m args below meth c cells slots Q nL (wl D A s (wX ad ca) σ (wM ad' ca' τ)) pc lv rest) : bW p l e R s m args below meth c cells slots Q nL (wv D A s (wX ad ca σ ++ wM ad' ca' τ)) pc lv rest := by
  intro H locs ls hW hl
  have hD : ∀ σ1 τ1, va_D A (wX ad ca σ1 ++ wM ad' ca' τ1) := fun σ1 τ1 => vD_same (w := wX ad ca σ ++ wM ad' ca' τ) (w' := wX ad ca σ1 ++ wM ad' ca' τ1) rfl hW.2.1
  have hDX : ∀ σ, va_D A (wX ad ca σ) := fun σ => (hD σ st0).sub [0, 1, 2, 3, 4, 5, 6, 7, 8, 9, 10, 11, 12] rfl rfl
  have hDM : ∀ τ, va_D A (wM ad' ca' τ) := fun τ => (hD st0 τ).sub [13, 14, 15, 16, 17, 18, 19, 20, 21, 22] rfl rfl
  have hPX : va_P D cls (wX ad ca σ) H := hW.1.sub [0, 1, 2, 3, 4, 5, 6, 7, 8, 9, 10, 11, 12] rfl
  have hPM : va_P D cls (wM ad' ca' τ) H := hW.1.sub [13, 14, 15, 16, 17, 18, 19, 20, 21, 22] rfl
  have dj : ∀ (σ τ : St) (i j : Nat) (p q : Nat × va_E), (wX ad ca σ)[i]? = some p → (wM ad' ca' τ)[j]? = some q → p.1 ≠ q.1 := by
    intro σ τ i j p q hi hj hpq
    have hlen : (wX ad ca σ).length = 13 := rfl
    have h1 : i < 13 := by
      have := (List.getElem?_eq_some_iff.mp hi).1
      omega
    have e1 : (wX ad ca σ ++ wM ad' ca' τ)[i]? = some p := by rw [List.getElem?_append_left (by omega)]; exact hi
    have e2 : (wX ad ca σ ++ wM ad' ca' τ)[13 + j]? = some q := by
      rw [List.getElem?_append_right (by omega), hlen, Nat.add_sub_cancel_left]; exact hj
    have := (hD σ τ).1 i (13 + j) p q e1 e2 hpq
    omega
  refine k ⟨⟨⟨hK.sub [0, 1, 2, 3, 4, 5, 6, 7, 8] rfl, hX.2⟩, hDX, hA⟩, ⟨⟨hK.sub [9, 10, 11, 12, 13, 14, 15, 16, 17] rfl, hX.2⟩, hDM, hA⟩, fun τ => dj st0 τ, fun σ i j p q hi hj hpq => dj σ st0 j i q p hj hi hpq.symm, S⟩ H locs ls ⟨⟨hPX, hW.2.2⟩, hPM⟩ hl
theorem b_widen {Wd : Heap → List Loc → Prop} {k n : Nat} (hk : cells ≤ k) (hn : slots ≤ n) (kk : bW p l e R s m args below meth c k n Q nL Wd pc lv rest) : bW p l e R s m args below meth c cells slots Q nL Wd pc lv rest := fun H locs ls hW hl => W.widen hk hn (kk H locs ls hW hl)
end
