/-! the law's own rows: the class's world at work, other cells at rest -/
/-- one world at work, other cells at rest -/
def wl (D : va_G) (A : Nat → Prop) (s : State) (w : St → va_W) (σ : St) (wr : va_W) : Heap → List Loc → Prop := fun H locs => wd D A w s σ H locs ∧ va_P D cls wr H
/-- the script, and what is not touched -/
def Sc (s : State) (A : Nat → Prop) (b L : Nat) (xs : Nat → Int32) : Prop := va_X b L xs s s.heap ∧ b < s.heap.size ∧ ¬ A b ∧ L ≤ 260
/-- the row of twenty longs that the law makes for a round -/
def wNx (nx : Nat) (cn : ClassId) (η : Nat → Int64) : va_W := [(nx, .inl (cn, 20, .inr (.inl η)))]
def nz : Nat → Int64 := fun _ => 0
def Nxt (s : State) (D : va_G) (A : Nat → Prop) (ad : Nat → Nat) (ca : Nat → ClassId) (nx : Nat) (cn : ClassId) : Prop := va_K D cls (tyX ca ++ [(cn, .long)]) s ∧ ∀ σ η, va_D A (wX ad ca σ ++ wNx nx cn η)
theorem Nxt.dj {s : State} {D : va_G} {A : Nat → Prop} {ad : Nat → Nat} {ca : Nat → ClassId} {nx : Nat} {cn : ClassId} (h : Nxt s D A ad ca nx cn) {η : Nat → Int64} (i j : Nat) (p q : Nat × va_E) (hi : (wX ad ca st0)[i]? = some p) (hj : (wNx nx cn η)[j]? = some q) : p.1 ≠ q.1 := by
  intro hpq
  have hlen : (wX ad ca st0).length = 13 := rfl
  have h1 : i < 13 := (List.getElem?_eq_some_iff.mp hi).1
  have e1 : (wX ad ca st0 ++ wNx nx cn η)[i]? = some p := by rw [List.getElem?_append_left (by omega)]; exact hi
  have e2 : (wX ad ca st0 ++ wNx nx cn η)[13 + j]? = some q := by
    rw [List.getElem?_append_right (by omega), hlen, Nat.add_sub_cancel_left]; exact hj
  have := (h.2 st0 η).1 i (13 + j) p q e1 e2 hpq
  omega
section
variable {p : Program} {l : Launch} {e : Env} {R : Room} {s : State} {m : MethodId} {args : Array Value} {below : List Frame} {meth : Method} {c : Code} {cells slots : Nat} {Q : State → Prop}
variable {D : va_G} {A : Nat → Prop} {w : St → va_W} {tys : TyL} {own : String} {cc : ByteArray} {nL : Nat} {Wd : Heap → List Loc → Prop} {σ : St} {pc : Nat} {lv : List (Nat × Value)} {rest : List Value} {wr : va_W} {ad : Nat → Nat} {ca : Nat → ClassId} {nx : Nat} {cn : ClassId} {η : Nat → Int64}

theorem b_callL (C : Cb p s m args meth c own cc nL) (hw : sameW w) (X : Cx s D A w tys) (hdj : ∀ (i j : Nat) (p q : Nat × va_E), (w st0)[i]? = some p → wr[j]? = some q → p.1 ≠ q.1) {y : MethodName} {bytes : ByteArray} {maxL : Nat} {ret : Option FieldType} {rm : Room} {As : List Value} {b : Addr} {v : Option Value} {σ' : St} {index n : Nat} {stk : List Value}
    (d : decode cc pc = .ok (.invokevirtual index, 3)) (hM : Cw l y bytes maxL ret rm (.ref b :: As) w tys σ v σ') (hmf : MF y bytes maxL ret n) (hmi : MI y) (hlk : Cond.methodLink own index y ∈ TB)
    (q0 : Nat) {ci : Nat} {fs : List Value} {q : vw_C} (he : (w σ)[q0]? = some (b, .inr (ci, fs))) (hc : cls[ci]? = some q) (hcn : q.1 = y.cls)
    (hn : As.length = n) (h0 : rm.cells = 0 ∧ rm.slots = 0) (hR : rm.frames + 1 ≤ R.frames ∧ 8 + (maxL + 11) + rm.locals ≤ R.locals) (hcs : cells ≤ R.cells ∧ slots ≤ R.slots) (hst : stk = As.reverse ++ .ref b :: rest) (hcat : (rest.map fun v => v.category).sum ≤ 8)
    (k : bW p l e R s m args below meth c cells slots Q nL (wl D A s w σ' wr) (pc + 3) lv (v.toList ++ rest)) : bW p l e R s m args below meth c cells slots Q nL (wl D A s w σ wr) pc lv stk := by
  intro H locs ls hW2 hl
  obtain ⟨hW, hPr⟩ := hW2
  subst hst
  have hA : ∀ q, aA w H.size q → A q := fun q hq => by
    rcases hq with ⟨k, e, h⟩ | h
    · exact (X.2.1 _).2 k (q, e) h
    · exact X.2.2 q (Nat.le_trans hW.2.1 h)
  have hr := va_runV (l := l) (e := e) (R := R) (args := args) (below := below) (meth := meth) (H := H) (locs := locs) (cells := cells) (slots := slots) (g := F0 m pc ls (As.reverse ++ .ref b :: rest)) (Ts := TB) (As := As) (rest := rest) ⟨C.1, C.2.1, C.2.2.1, C.2.2.2.1, C.2.2.2.2.1⟩ (hM D H.size) (C := y.cls) ⟨cb_of C hmf hlk h0 hR, C.2.2.2.2.1 _ hmi.1, C.2.2.2.2.1 _ hmi.2⟩ ⟨Pw.blind, (by
    have h := va_recv X.1.1 hW.1 hc he
    rw [hcn] at h
    exact h), fun U hU hWm => ⟨rfl, by rw [hU], by rw [hU]; exact hW.1, X.1.moved hWm, fun σ => (X.2.1 σ).weaken (fun _ _ _ _ => trivial)⟩⟩ rfl hn hl.1 rfl (lv_room hcat) d hcs
  intro T hT XS
  obtain ⟨v', st₀, t, T', Ls, h0', X', hL, e1, e2, ⟨⟨hv, hp⟩, hz, hk⟩, st⟩ := hr T hT XS
  cases hv
  rw [h0'] at hz hk
  have hS := hW.2
  obtain ⟨t2, a1, b1⟩ := k T'.heap (locs ++ Ls) ls ⟨⟨by rw [e1]; exact hp, Nat.le_trans hS.1 (by rw [e1]; exact hz), fun q h1 h2 => by rw [e1, hk q (Nat.lt_of_lt_of_le h1 hS.1) (fun z => h2 (hA q z))]; exact hS.2.1 q h1 h2, fun q hq => by
      rcases List.mem_append.mp hq with h | h
      · exact hS.2.2 q h
      · exact hA _ (hL q h)⟩, hPr.kept (fun k q hq => by
      rw [e1]
      refine hk q.1 ((hPr k q hq).lt) (fun z => ?_)
      rcases z with ⟨i, e', hi⟩ | z
      · exact hdj i k (q.1, e') q hi hq rfl
      · exact absurd ((hPr k q hq).lt) (Nat.not_lt.mpr z))⟩ hl T' rfl X'
  exact ⟨t2, st t2 a1, b1⟩

/-- a static method with the world -/
theorem b_callSL (C : Cb p s m args meth c own cc nL) (hw : sameW w) (X : Cx s D A w tys) (hdj : ∀ (i j : Nat) (p q : Nat × va_E), (w st0)[i]? = some p → wr[j]? = some q → p.1 ≠ q.1) {y : MethodName} {bytes : ByteArray} {maxL : Nat} {ret : Option FieldType} {rm : Room} {As : List Value} {v : Option Value} {σ' : St} {index n : Nat} {stk : List Value}
    (d : decode cc pc = .ok (.invokestatic index, 3)) (hM : Cw l y bytes maxL ret rm As w tys σ v σ') (hmf : MF y bytes maxL ret n) (hms : Cond.static y ∈ TB) (hlk : Cond.methodLink own index y ∈ TB)
    (hn : As.length = n) (h0 : rm.cells = 0 ∧ rm.slots = 0) (hR : rm.frames + 1 ≤ R.frames ∧ 8 + (maxL + 11) + rm.locals ≤ R.locals) (hcs : cells ≤ R.cells ∧ slots ≤ R.slots) (hst : stk = As.reverse ++ rest) (hcat : (rest.map fun v => v.category).sum ≤ 8)
    (k : bW p l e R s m args below meth c cells slots Q nL (wl D A s w σ' wr) (pc + 3) lv (v.toList ++ rest)) : bW p l e R s m args below meth c cells slots Q nL (wl D A s w σ wr) pc lv stk := by
  intro H locs ls hW2 hl
  obtain ⟨hW, hPr⟩ := hW2
  subst hst
  have hA : ∀ q, aA w H.size q → A q := fun q hq => by
    rcases hq with ⟨k, e, h⟩ | h
    · exact (X.2.1 _).2 k (q, e) h
    · exact X.2.2 q (Nat.le_trans hW.2.1 h)
  have hr := va_runS (l := l) (e := e) (R := R) (args := args) (below := below) (meth := meth) (H := H) (locs := locs) (cells := cells) (slots := slots) (g := F0 m pc ls (As.reverse ++ rest)) (Ts := TB) (As := As) (rest := rest) ⟨C.1, C.2.1, C.2.2.1, C.2.2.2.1, C.2.2.2.2.1⟩ (hM D H.size) ⟨cb_of C hmf hlk h0 hR, C.2.2.2.2.1 _ hms⟩ ⟨Pw.blind, fun U hU hWm => ⟨rfl, by rw [hU], by rw [hU]; exact hW.1, X.1.moved hWm, fun σ => (X.2.1 σ).weaken (fun _ _ _ _ => trivial)⟩⟩ rfl hn hl.1 rfl (lv_room hcat) d hcs
  intro T hT XS
  obtain ⟨v', st₀, t, T', Ls, h0', X', hL, e1, e2, ⟨⟨hv, hp⟩, hz, hk⟩, st⟩ := hr T hT XS
  cases hv
  rw [h0'] at hz hk
  have hS := hW.2
  obtain ⟨t2, a1, b1⟩ := k T'.heap (locs ++ Ls) ls ⟨⟨by rw [e1]; exact hp, Nat.le_trans hS.1 (by rw [e1]; exact hz), fun q h1 h2 => by rw [e1, hk q (Nat.lt_of_lt_of_le h1 hS.1) (fun z => h2 (hA q z))]; exact hS.2.1 q h1 h2, fun q hq => by
      rcases List.mem_append.mp hq with h | h
      · exact hS.2.2 q h
      · exact hA _ (hL q h)⟩, hPr.kept (fun k q hq => by
      rw [e1]
      refine hk q.1 ((hPr k q hq).lt) (fun z => ?_)
      rcases z with ⟨i, e', hi⟩ | z
      · exact hdj i k (q.1, e') q hi hq rfl
      · exact absurd ((hPr k q hq).lt) (Nat.not_lt.mpr z))⟩ hl T' rfl X'
  exact ⟨t2, st t2 a1, b1⟩

theorem b_wl (k : bW p l e R s m args below meth c cells slots Q nL (wl D A s w σ []) pc lv rest) : bW p l e R s m args below meth c cells slots Q nL (wd D A w s σ) pc lv rest := fun H locs ls hW hl => k H locs ls ⟨hW, fun k q h => by simp at h⟩ hl
theorem b_lw (k : bW p l e R s m args below meth c cells slots Q nL (wd D A w s σ) pc lv rest) : bW p l e R s m args below meth c cells slots Q nL (wl D A s w σ wr) pc lv rest := fun H locs ls hW hl => k H locs ls hW.1 hl
theorem b_callSW (C : Cb p s m args meth c own cc nL) (hw : sameW w) (X : Cx s D A w tys) {y : MethodName} {bytes : ByteArray} {maxL : Nat} {ret : Option FieldType} {rm : Room} {As : List Value} {v : Option Value} {σ' : St} {index n : Nat} {stk : List Value} (d : decode cc pc = .ok (.invokestatic index, 3)) (hM : Cw l y bytes maxL ret rm As w tys σ v σ') (hmf : MF y bytes maxL ret n) (hms : Cond.static y ∈ TB) (hlk : Cond.methodLink own index y ∈ TB) (hn : As.length = n) (h0 : rm.cells = 0 ∧ rm.slots = 0) (hR : rm.frames + 1 ≤ R.frames ∧ 8 + (maxL + 11) + rm.locals ≤ R.locals) (hcs : cells ≤ R.cells ∧ slots ≤ R.slots) (hst : stk = As.reverse ++ rest) (hcat : (rest.map fun v => v.category).sum ≤ 8) (k : bW p l e R s m args below meth c cells slots Q nL (wd D A w s σ') (pc + 3) lv (v.toList ++ rest)) : bW p l e R s m args below meth c cells slots Q nL (wd D A w s σ) pc lv stk := b_wl (b_callSL (wr := []) C hw X (fun i j p q _ h => by simp at h) d hM hmf hms hlk hn h0 hR hcs hst hcat (b_lw k))
theorem b_callSWi (C : Cb p s m args meth c own cc nL) (hw : sameW w) (X : Cx s D A w tys) {y : MethodName} {bytes : ByteArray} {maxL : Nat} {ret : Option FieldType} {rm : Room} {As : List Value} {r : Int32} {σ' : St} {index n : Nat} {stk : List Value} (d : decode cc pc = .ok (.invokestatic index, 3)) (hM : Cw l y bytes maxL ret rm As w tys σ (some (.int r)) σ') (hmf : MF y bytes maxL ret n) (hms : Cond.static y ∈ TB) (hlk : Cond.methodLink own index y ∈ TB) (hn : As.length = n) (h0 : rm.cells = 0 ∧ rm.slots = 0) (hR : rm.frames + 1 ≤ R.frames ∧ 8 + (maxL + 11) + rm.locals ≤ R.locals) (hcs : cells ≤ R.cells ∧ slots ≤ R.slots) (hst : stk = As.reverse ++ rest) (hcat : (rest.map fun v => v.category).sum ≤ 8) (k : bW p l e R s m args below meth c cells slots Q nL (wd D A w s σ') (pc + 3) lv (.int r :: rest)) : bW p l e R s m args below meth c cells slots Q nL (wd D A w s σ) pc lv stk := b_callSW C hw X d hM hmf hms hlk hn h0 hR hcs hst hcat k
theorem b_callSLi (C : Cb p s m args meth c own cc nL) (hw : sameW w) (X : Cx s D A w tys) (hdj : ∀ (i j : Nat) (p q : Nat × va_E), (w st0)[i]? = some p → wr[j]? = some q → p.1 ≠ q.1) {y : MethodName} {bytes : ByteArray} {maxL : Nat} {ret : Option FieldType} {rm : Room} {As : List Value} {r : Int32} {σ' : St} {index n : Nat} {stk : List Value} (d : decode cc pc = .ok (.invokestatic index, 3)) (hM : Cw l y bytes maxL ret rm As w tys σ (some (.int r)) σ') (hmf : MF y bytes maxL ret n) (hms : Cond.static y ∈ TB) (hlk : Cond.methodLink own index y ∈ TB) (hn : As.length = n) (h0 : rm.cells = 0 ∧ rm.slots = 0) (hR : rm.frames + 1 ≤ R.frames ∧ 8 + (maxL + 11) + rm.locals ≤ R.locals) (hcs : cells ≤ R.cells ∧ slots ≤ R.slots) (hst : stk = As.reverse ++ rest) (hcat : (rest.map fun v => v.category).sum ≤ 8) (k : bW p l e R s m args below meth c cells slots Q nL (wl D A s w σ' wr) (pc + 3) lv (.int r :: rest)) : bW p l e R s m args below meth c cells slots Q nL (wl D A s w σ wr) pc lv stk := b_callSL C hw X hdj d hM hmf hms hlk hn h0 hR hcs hst hcat k
theorem b_callSWl (C : Cb p s m args meth c own cc nL) (hw : sameW w) (X : Cx s D A w tys) {y : MethodName} {bytes : ByteArray} {maxL : Nat} {ret : Option FieldType} {rm : Room} {As : List Value} {r : Int64} {σ' : St} {index n : Nat} {stk : List Value} (d : decode cc pc = .ok (.invokestatic index, 3)) (hM : Cw l y bytes maxL ret rm As w tys σ (some (.long r)) σ') (hmf : MF y bytes maxL ret n) (hms : Cond.static y ∈ TB) (hlk : Cond.methodLink own index y ∈ TB) (hn : As.length = n) (h0 : rm.cells = 0 ∧ rm.slots = 0) (hR : rm.frames + 1 ≤ R.frames ∧ 8 + (maxL + 11) + rm.locals ≤ R.locals) (hcs : cells ≤ R.cells ∧ slots ≤ R.slots) (hst : stk = As.reverse ++ rest) (hcat : (rest.map fun v => v.category).sum ≤ 8) (k : bW p l e R s m args below meth c cells slots Q nL (wd D A w s σ') (pc + 3) lv (.long r :: rest)) : bW p l e R s m args below meth c cells slots Q nL (wd D A w s σ) pc lv stk := b_callSW C hw X d hM hmf hms hlk hn h0 hR hcs hst hcat k
theorem b_callSLl (C : Cb p s m args meth c own cc nL) (hw : sameW w) (X : Cx s D A w tys) (hdj : ∀ (i j : Nat) (p q : Nat × va_E), (w st0)[i]? = some p → wr[j]? = some q → p.1 ≠ q.1) {y : MethodName} {bytes : ByteArray} {maxL : Nat} {ret : Option FieldType} {rm : Room} {As : List Value} {r : Int64} {σ' : St} {index n : Nat} {stk : List Value} (d : decode cc pc = .ok (.invokestatic index, 3)) (hM : Cw l y bytes maxL ret rm As w tys σ (some (.long r)) σ') (hmf : MF y bytes maxL ret n) (hms : Cond.static y ∈ TB) (hlk : Cond.methodLink own index y ∈ TB) (hn : As.length = n) (h0 : rm.cells = 0 ∧ rm.slots = 0) (hR : rm.frames + 1 ≤ R.frames ∧ 8 + (maxL + 11) + rm.locals ≤ R.locals) (hcs : cells ≤ R.cells ∧ slots ≤ R.slots) (hst : stk = As.reverse ++ rest) (hcat : (rest.map fun v => v.category).sum ≤ 8) (k : bW p l e R s m args below meth c cells slots Q nL (wl D A s w σ' wr) (pc + 3) lv (.long r :: rest)) : bW p l e R s m args below meth c cells slots Q nL (wl D A s w σ wr) pc lv stk := b_callSL C hw X hdj d hM hmf hms hlk hn h0 hR hcs hst hcat k
theorem b_callLi (C : Cb p s m args meth c own cc nL) (hw : sameW w) (X : Cx s D A w tys) (hdj : ∀ (i j : Nat) (p q : Nat × va_E), (w st0)[i]? = some p → wr[j]? = some q → p.1 ≠ q.1) {y : MethodName} {bytes : ByteArray} {maxL : Nat} {ret : Option FieldType} {rm : Room} {As : List Value} {b : Addr} {r : Int32} {σ' : St} {index n : Nat} {stk : List Value} (d : decode cc pc = .ok (.invokevirtual index, 3)) (hM : Cw l y bytes maxL ret rm (.ref b :: As) w tys σ (some (.int r)) σ') (hmf : MF y bytes maxL ret n) (hmi : MI y) (hlk : Cond.methodLink own index y ∈ TB) (q0 : Nat) {ci : Nat} {fs : List Value} {q : vw_C} (he : (w σ)[q0]? = some (b, .inr (ci, fs))) (hc : cls[ci]? = some q) (hcn : q.1 = y.cls) (hn : As.length = n) (h0 : rm.cells = 0 ∧ rm.slots = 0) (hR : rm.frames + 1 ≤ R.frames ∧ 8 + (maxL + 11) + rm.locals ≤ R.locals) (hcs : cells ≤ R.cells ∧ slots ≤ R.slots) (hst : stk = As.reverse ++ .ref b :: rest) (hcat : (rest.map fun v => v.category).sum ≤ 8) (k : bW p l e R s m args below meth c cells slots Q nL (wl D A s w σ' wr) (pc + 3) lv (.int r :: rest)) : bW p l e R s m args below meth c cells slots Q nL (wl D A s w σ wr) pc lv stk := b_callL C hw X hdj d hM hmf hmi hlk q0 he hc hcn hn h0 hR hcs hst hcat k
theorem b_callLl (C : Cb p s m args meth c own cc nL) (hw : sameW w) (X : Cx s D A w tys) (hdj : ∀ (i j : Nat) (p q : Nat × va_E), (w st0)[i]? = some p → wr[j]? = some q → p.1 ≠ q.1) {y : MethodName} {bytes : ByteArray} {maxL : Nat} {ret : Option FieldType} {rm : Room} {As : List Value} {b : Addr} {r : Int64} {σ' : St} {index n : Nat} {stk : List Value} (d : decode cc pc = .ok (.invokevirtual index, 3)) (hM : Cw l y bytes maxL ret rm (.ref b :: As) w tys σ (some (.long r)) σ') (hmf : MF y bytes maxL ret n) (hmi : MI y) (hlk : Cond.methodLink own index y ∈ TB) (q0 : Nat) {ci : Nat} {fs : List Value} {q : vw_C} (he : (w σ)[q0]? = some (b, .inr (ci, fs))) (hc : cls[ci]? = some q) (hcn : q.1 = y.cls) (hn : As.length = n) (h0 : rm.cells = 0 ∧ rm.slots = 0) (hR : rm.frames + 1 ≤ R.frames ∧ 8 + (maxL + 11) + rm.locals ≤ R.locals) (hcs : cells ≤ R.cells ∧ slots ≤ R.slots) (hst : stk = As.reverse ++ .ref b :: rest) (hcat : (rest.map fun v => v.category).sum ≤ 8) (k : bW p l e R s m args below meth c cells slots Q nL (wl D A s w σ' wr) (pc + 3) lv (.long r :: rest)) : bW p l e R s m args below meth c cells slots Q nL (wl D A s w σ wr) pc lv stk := b_callL C hw X hdj d hM hmf hmi hlk q0 he hc hcn hn h0 hR hcs hst hcat k
/-- the row is made -/
theorem b_newN (C : Cb p s m args meth c own cc nL) (X : Cx s D A (wX ad ca) (tyX ca)) (hcells : 1 ≤ R.cells) (hslots : 20 ≤ R.slots) (d : decode cc pc = .ok (.newarray .long, 2))
    (k : ∀ nx cn, Nxt s D A ad ca nx cn → bW p l e R s m args below meth c 1 20 Q nL (wl D A s (wX ad ca) σ (wNx nx cn nz)) (pc + 2) lv (.ref nx :: rest)) : bW p l e R s m args below meth c 0 0 Q nL (wd D A (wX ad ca) s σ) pc lv (.int (20 : Int32) :: rest) := by
  refine b_unworld X (b_newa C X.1.1 X.2.2 (atype := .long) rfl ka_long (n := nI 20) (N' := 20) (a0 := (20, .inr (.inl nz))) (fun _ => rfl) (by decide) (nI_clamp (by omega)) (Nat.le_of_ble_eq_true rfl) hcells hslots d (fun q1 c1 hK1 => ?_))
  intro H locs ls hW hl
  have hD : ∀ σ1 η1, va_D A (wX ad ca σ1 ++ wNx q1 c1 η1) := fun σ1 η1 => vD_same (w := wX ad ca σ ++ wNx q1 c1 nz) (w' := wX ad ca σ1 ++ wNx q1 c1 η1) rfl hW.2.1
  have hPX : va_P D cls (wX ad ca σ) H := hW.1.sub [0, 1, 2, 3, 4, 5, 6, 7, 8, 9, 10, 11, 12] rfl
  have hPN : va_P D cls (wNx q1 c1 nz) H := hW.1.sub [13] rfl
  exact k q1 c1 ⟨hK1, hD⟩ H locs ls ⟨⟨hPX, hW.2.2⟩, hPN⟩ hl
theorem b_laldN (C : Cb p s m args meth c own cc nL) (X : Nxt s D A ad ca nx cn) {i : Int32} (hin : vp_in i 20) (d : decode cc pc = .ok (.laload, 1)) (k : bW p l e R s m args below meth c cells slots Q nL (wl D A s (wX ad ca) σ (wNx nx cn η)) (pc + 1) lv (.long (η i.toNatClampNeg) :: rest)) : bW p l e R s m args below meth c cells slots Q nL (wl D A s (wX ad ca) σ (wNx nx cn η)) pc lv (.int i :: .ref nx :: rest) := fun H locs ls hW hl =>
  va_lald C.1 C.2.1 X.1 hW.2 0 9 rfl rfl hin d (k H locs ls hW hl)
theorem b_lastN (C : Cb p s m args meth c own cc nL) (X : Nxt s D A ad ca nx cn) {i : Int32} {x : Int64} (hin : vp_in i 20) (d : decode cc pc = .ok (.lastore, 1)) (k : bW p l e R s m args below meth c cells slots Q nL (wl D A s (wX ad ca) σ (wNx nx cn (vp_updL η i.toNatClampNeg x))) (pc + 1) lv rest) : bW p l e R s m args below meth c cells slots Q nL (wl D A s (wX ad ca) σ (wNx nx cn η)) pc lv (.long x :: .int i :: .ref nx :: rest) := fun H locs ls hW hl =>
  va_last C.1 C.2.1 X.1 (hW.1.1.app hW.2) (X.2 σ η) hW.1.2 13 9 rfl rfl hin d (fun H1 locs1 hP hD hS => k H1 locs1 ls ⟨⟨hP.sub [0, 1, 2, 3, 4, 5, 6, 7, 8, 9, 10, 11, 12] rfl, hS⟩, hP.sub [13] rfl⟩ hl)
theorem b_nmE {η' : Nat → Int64} (he : η' = η) (k : bW p l e R s m args below meth c cells slots Q nL (wl D A s w σ (wNx nx cn η')) pc lv rest) : bW p l e R s m args below meth c cells slots Q nL (wl D A s w σ (wNx nx cn η)) pc lv rest := by subst he; exact k
theorem b_nmSl {σ' : St} (he : σ' = σ) (k : bW p l e R s m args below meth c cells slots Q nL (wl D A s w σ' wr) pc lv rest) : bW p l e R s m args below meth c cells slots Q nL (wl D A s w σ wr) pc lv rest := by subst he; exact k
theorem b_widen {k n : Nat} (hk : cells ≤ k) (hn : slots ≤ n) (kk : bW p l e R s m args below meth c k n Q nL Wd pc lv rest) : bW p l e R s m args below meth c cells slots Q nL Wd pc lv rest := fun H locs ls hW hl => W.widen hk hn (kk H locs ls hW hl)
/-- the end of a method that made cells of its own, which are forgotten -/
theorem n_zret (C : Cb p s m args meth c own cc nL) {x : Int32} {ty : FieldType} (mc ms : Nat) (hc : cells ≤ mc) (hs : slots ≤ ms) (d : decode cc pc = .ok (.ireturn, 1)) (hr : meth.sig.returnType = some ty) (hn : narrow ty (.int x) = .int x) : bW p l e R s m args below meth c cells slots (MQ below (Qw D w σ (some (.int x)) A) args s mc ms A) nL (wd D A w s σ) pc lv [.int x] := fun H locs ls hW hl =>
  W.widen (k := mc) (n := ms) hc hs (W.zret C.1 C.2.1 hr hn (fun t ht hWm => ⟨⟨rfl, by rw [ht]; exact hW.1⟩, hW.2.F ht⟩) hW.2.2.2 d C.2.2.2.2.2)
/-- the contract of a method with a world that makes cells -/
def Cwn (l : Launch) (y : MethodName) (bytes : ByteArray) (maxL : Nat) (ret : Option FieldType) (rm : Room) (av : List Value) (w : St → va_W) (tys : TyL) (σ : St) (v : Option Value) (σ' : St) (mc ms : Nat) : Prop :=
  ∀ (D : va_G) (sz : Nat), Met l y (.code y bytes maxL ret :: TB) rm (va_Pc av (Pw D w tys σ sz)) (Qw D w σ' v (aA w sz)) mc ms (aA w sz)
theorem Cwn_of {y : MethodName} {bytes : ByteArray} {maxL : Nat} {ret : Option FieldType} {rm : Room} {av : List Value} {σ' : St} {v : Option Value} (mc ms : Nat) (hy : plainName y.cls = true) (hw : sameW w) (hlen : (lg_sl av).length ≤ maxL)
    (body : ∀ (p : Program) (e : Env) (s : State) (m : MethodId) (args : Array Value) (below : List Frame) (meth : Method) (c : Code) (D : va_G) (A : Nat → Prop), Cb p s m args meth c y.cls bytes maxL → Cx s D A w tys → meth.sig.returnType = ret → bW p l e rm s m args below meth c 0 0 (MQ below (Qw D w σ' v A) args s mc ms A) maxL (wd D A w s σ) 0 (lv_args 0 av) []) : Cwn l y bytes maxL ret rm av w tys σ v σ' mc ms := by
  intro D sz
  refine Met.ofW (cc := bytes) (maxL := maxL) (ret := ret) hy rfl ?_
  intro p e s m args below meth c s₁ B hml hv
  obtain ⟨rfl, hsz, hP, hK, hD0⟩ := hv
  have hts := atoms_spec (ws := .code y bytes maxL ret :: TB) B.pre
  have hown : s.vm.findClass y.cls = some m.cls := findClass_of_methodNamed B.named
  have C : Cb p s m av.toArray meth c y.cls bytes maxL := ⟨B.exec, B.bytes, hml, hown, fun x hx => hts x (List.mem_cons_of_mem _ hx), B.notSynchronized⟩
  subst hsz
  have X : Cx s D (aA w s.heap.size) w tys := ⟨hK, fun σ => ⟨(hD0 σ).1, fun k q h => aA_in hw h⟩, fun q h => Or.inr h⟩
  have h := body p e s m av.toArray below meth c D (aA w s.heap.size) C X B.returns s.heap [] _ ⟨hP, va_S.rf⟩ (lv_entry av hlen)
  rw [lg_entry_eq]
  exact h
theorem cb_ofN {y : MethodName} {bytes : ByteArray} {maxL : Nat} {ret : Option FieldType} {rm : Room} {index n mc ms : Nat} (C : Cb p s m args meth c own cc nL) (hmf : MF y bytes maxL ret n) (hl : Cond.methodLink own index y ∈ TB) (h0 : rm.cells = mc ∧ rm.slots = ms) (hR : rm.frames + 1 ≤ R.frames ∧ 8 + (maxL + 11) + rm.locals ≤ R.locals) : CallB R s args own index y bytes maxL ret (.code y bytes maxL ret :: TB) rm mc ms n :=
  callB_of n C.2.2.2.2.1 (TB_cons hmf.1) rfl h0.1 h0.2 (C.2.2.2.2.1 _ hmf.2.1) (C.2.2.2.2.1 _ hl) hmf.2.2 hR
/-- its call -/
theorem b_callRi (C : Cb p s m args meth c own cc nL) (hw : sameW w) (X : Cx s D A w tys) {y : MethodName} {bytes : ByteArray} {maxL : Nat} {ret : Option FieldType} {rm : Room} {As : List Value} {r : Int32} {σ' : St} {index n mc ms : Nat} {stk : List Value}
    (d : decode cc pc = .ok (.invokestatic index, 3)) (hM : Cwn l y bytes maxL ret rm As w tys σ (some (.int r)) σ' mc ms) (hmf : MF y bytes maxL ret n) (hms : Cond.static y ∈ TB) (hlk : Cond.methodLink own index y ∈ TB)
    (hn : As.length = n) (h0 : rm.cells = mc ∧ rm.slots = ms) (hR : rm.frames + 1 ≤ R.frames ∧ 8 + (maxL + 11) + rm.locals ≤ R.locals) (hcs : cells + mc ≤ R.cells ∧ slots + ms ≤ R.slots) (hst : stk = As.reverse ++ rest) (hcat : (rest.map fun v => v.category).sum ≤ 8)
    (k : bW p l e R s m args below meth c (cells + mc) (slots + ms) Q nL (wd D A w s σ') (pc + 3) lv (.int r :: rest)) : bW p l e R s m args below meth c cells slots Q nL (wd D A w s σ) pc lv stk := by
  intro H locs ls hW hl
  subst hst
  have hA : ∀ q, aA w H.size q → A q := fun q hq => by
    rcases hq with ⟨k, e, h⟩ | h
    · exact (X.2.1 _).2 k (q, e) h
    · exact X.2.2 q (Nat.le_trans hW.2.1 h)
  have hr := va_runS (l := l) (e := e) (R := R) (args := args) (below := below) (meth := meth) (H := H) (locs := locs) (cells := cells) (slots := slots) (g := F0 m pc ls (As.reverse ++ rest)) (Ts := TB) (As := As) (rest := rest) ⟨C.1, C.2.1, C.2.2.1, C.2.2.2.1, C.2.2.2.2.1⟩ (hM D H.size) ⟨cb_ofN C hmf hlk h0 hR, C.2.2.2.2.1 _ hms⟩ ⟨Pw.blind, fun U hU hWm => ⟨rfl, by rw [hU], by rw [hU]; exact hW.1, X.1.moved hWm, fun σ => (X.2.1 σ).weaken (fun _ _ _ _ => trivial)⟩⟩ rfl hn hl.1 rfl (lv_room hcat) d hcs
  intro T hT XS
  obtain ⟨v', st₀, t, T', Ls, h0', X', hL, e1, e2, ⟨⟨hv, hp⟩, hz, hk⟩, st⟩ := hr T hT XS
  cases hv
  rw [h0'] at hz hk
  have hS := hW.2
  obtain ⟨t2, a1, b1⟩ := k T'.heap (locs ++ Ls) ls ⟨by rw [e1]; exact hp, Nat.le_trans hS.1 (by rw [e1]; exact hz), fun q h1 h2 => by rw [e1, hk q (Nat.lt_of_lt_of_le h1 hS.1) (fun z => h2 (hA q z))]; exact hS.2.1 q h1 h2, fun q hq => by
      rcases List.mem_append.mp hq with h | h
      · exact hS.2.2 q h
      · exact hA _ (hL q h)⟩ hl T' rfl X'
  exact ⟨t2, st t2 a1, b1⟩
/-! the cell of the script -/
def fL_cell (L : Nat) (xs : Nat → Int32) (k : Int32) : Option Int32 :=
  if Int32.ofNat L ≤ k then some ((1790021 : Int32) * k + (733 : Int32)) else if (k < 0 ∨ L ≤ k.toNatClampNeg) then none else some (xs k.toNatClampNeg)
def Cc (l : Launch) (rm : Room) (b L : Nat) (xs : Nat → Int32) (k r : Int32) : Prop :=
  Met l yL_cell (.code yL_cell cL_cell 2 (some .int) :: TB) rm (va_Pc [.ref b, .int k] (fun U => va_X b L xs U U.heap ∧ b < U.heap.size)) (Qs (some (.int r))) 0 0 (fun _ => False)
def rmL_cell : Room := { frames := 0, cells := 0, slots := 0, locals := 0 }
theorem ctL_cell {l : Launch} {b L : Nat} {xs : Nat → Int32} {k r : Int32} (h : fL_cell L xs k = some r) : Cc l rmL_cell b L xs k r := by
  refine MetOfF (cc := cL_cell) (maxL := 2) (ret := some .int) (by decide +kernel) rfl ?_
  intro p e s m args below meth c s₁ B hml hv
  obtain ⟨rfl, hX, hbl⟩ := hv
  have hts := atoms_spec (ws := .code yL_cell cL_cell 2 (some .int) :: TB) B.pre
  have hown : s.vm.findClass yL_cell.cls = some m.cls := findClass_of_methodNamed B.named
  have C : Cb p s m ([Value.ref b, .int k] : List Value).toArray meth c RL cL_cell 2 := ⟨B.exec, B.bytes, hml, hown, fun x hx => hts x (List.mem_cons_of_mem _ hx), B.notSynchronized⟩
  have hr := B.returns
  have key : bW p l e rmL_cell s m ([Value.ref b, .int k] : List Value).toArray below meth c 0 0 (MQ below (Qs (some (.int r))) ([Value.ref b, .int k] : List Value).toArray s 0 0 (fun _ => False)) 2 (wn s) 0 (lv_args 0 [.ref b, .int k]) [] := by
    refine b_sub (lv' := [(0, .ref b), (1, .int k)]) [0, 1] rfl ?_
    refine b_iload_n C 1 dL_cell_0 rfl rfl ?_
    refine b_aload_n C 0 dL_cell_1 rfl rfl ?_
    have len : ∀ {st : List Value}, bW p l e rmL_cell s m ([Value.ref b, .int k] : List Value).toArray below meth c 0 0 (MQ below (Qs (some (.int r))) ([Value.ref b, .int k] : List Value).toArray s 0 0 (fun _ => False)) 2 (wn s) 3 [(0, .ref b), (1, .int k)] (.int (Int32.ofNat L) :: st) → bW p l e rmL_cell s m ([Value.ref b, .int k] : List Value).toArray below meth c 0 0 (MQ below (Qs (some (.int r))) ([Value.ref b, .int k] : List Value).toArray s 0 0 (fun _ => False)) 2 (wn s) 2 [(0, .ref b), (1, .int k)] (.ref b :: st) := fun kk H locs ls hW hl =>
      va_slen (A := fun _ => False) C.1 C.2.1 hX hbl (fun z => z) (by rw [hW.1, hW.2]; exact va_S.rf) dL_cell_2 (kk H locs ls hW hl)
    refine len ?_
    unfold fL_cell at h
    refine b_icmp_ge (tgt := 12) C dL_cell_3 (by decide) (fun hc => ?_) (fun hc => ?_)
    · rw [if_pos hc] at h
      obtain rfl := so1 h
      refine b_ldc (v := (1790021 : Int32)) C dL_cell_12 kc_L_7 ?_
      refine b_iload_n C 1 dL_cell_14 rfl rfl ?_
      refine b_imul C dL_cell_15 ?_
      refine b_sipush (v := (733 : Int32)) C dL_cell_16 (by decide) ?_
      refine b_iadd C dL_cell_19 ?_
      exact s_iret C dL_cell_20 hr
    · rw [if_neg hc] at h
      obtain ⟨g, h⟩ := gdn h
      obtain rfl := so1 h
      refine b_aload_n C 0 dL_cell_6 rfl rfl ?_
      refine b_iload_n C 1 dL_cell_7 rfl rfl ?_
      have ld : ∀ {st : List Value}, bW p l e rmL_cell s m ([Value.ref b, .int k] : List Value).toArray below meth c 0 0 (MQ below (Qs (some (.int (xs k.toNatClampNeg)))) ([Value.ref b, .int k] : List Value).toArray s 0 0 (fun _ => False)) 2 (wn s) 9 [(0, .ref b), (1, .int k)] (.int (xs k.toNatClampNeg) :: st) → bW p l e rmL_cell s m ([Value.ref b, .int k] : List Value).toArray below meth c 0 0 (MQ below (Qs (some (.int (xs k.toNatClampNeg)))) ([Value.ref b, .int k] : List Value).toArray s 0 0 (fun _ => False)) 2 (wn s) 8 [(0, .ref b), (1, .int k)] (.int k :: .ref b :: st) := fun kk H locs ls hW hl =>
        va_sld (A := fun _ => False) C.1 C.2.1 hX hbl (fun z => z) (by rw [hW.1, hW.2]; exact va_S.rf) g dL_cell_8 (kk H locs ls hW hl)
      refine ld ?_
      refine b_goto (tgt := 20) C dL_cell_9 (by decide) ?_
      exact s_iret C dL_cell_20 hr
  rw [lg_entry_eq]
  exact key s.heap [] _ ⟨rfl, rfl⟩ (lv_entry [.ref b, .int k] (n := 2) (Nat.le_of_ble_eq_true rfl))
/-- a cell is read, in the law -/
theorem b_cell (C : Cb p s m args meth c own cc nL) {b L : Nat} {xs : Nat → Int32} (S : Sc s A b L xs) {k r : Int32} {index : Nat} {stk : List Value}
    (d : decode cc pc = .ok (.invokestatic index, 3)) (hM : fL_cell L xs k = some r) (hlk : Cond.methodLink own index yL_cell ∈ TB) (hR : 1 ≤ R.frames ∧ 21 ≤ R.locals) (hcs : cells ≤ R.cells ∧ slots ≤ R.slots) (hst : stk = .int k :: .ref b :: rest) (hcat : (rest.map fun v => v.category).sum ≤ 8)
    (kk : bW p l e R s m args below meth c cells slots Q nL (wd D A w s σ) (pc + 3) lv (.int r :: rest)) : bW p l e R s m args below meth c cells slots Q nL (wd D A w s σ) pc lv stk := by
  intro H locs ls hW hl
  subst hst
  have hS := hW.2
  have hbH : H[b]? = s.heap[b]? := hS.2.1 b S.2.1 S.2.2.1
  exact b_afterS (v := some (.int r)) (a := ([Value.ref b, .int k] : List Value).toArray) (va_runS (Ts := TB) (As := [.ref b, .int k]) (rest := rest) ⟨C.1, C.2.1, C.2.2.1, C.2.2.2.1, C.2.2.2.2.1⟩ (ctL_cell hM) ⟨cb_of C mf_L_cell hlk ⟨rfl, rfl⟩ ⟨hR.1, hR.2⟩, C.2.2.2.2.1 _ ms_L_cell⟩ ⟨fun _ _ _ _ q => q, fun U hU hWm => ⟨rfl, (by rw [hU]; exact (S.1.kept hbH).moved hWm.alike), by rw [hU]; exact Nat.lt_of_lt_of_le S.2.1 hS.1⟩⟩ rfl rfl hl.1 rfl (lv_room hcat) d hcs) hW hl kk
end
