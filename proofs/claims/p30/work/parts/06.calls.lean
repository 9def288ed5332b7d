/-! contracts -/
/-- what a method with a world answers, and what it leaves -/
def Qw (D : va_G) (w : St → va_W) (σ' : St) (v : Option Value) (A : Nat → Prop) : Array Value → State → Outcome → State → Prop := fun _ st oc t => (oc = .returned v ∧ va_P D cls (w σ') t.heap) ∧ va_F A st t
/-- what a method without one answers -/
def Qs (v : Option Value) : Array Value → State → Outcome → State → Prop := fun _ st oc t => oc = .returned v ∧ t.heap = st.heap
def Pw (D : va_G) (w : St → va_W) (tys : TyL) (σ : St) (sz : Nat) : State → Prop := fun U => U.heap.size = sz ∧ va_P D cls (w σ) U.heap ∧ Kx D tys U ∧ ∀ σ, va_D (fun _ => True) (w σ)
/-- the contract of a method with a world: from σ it answers v and leaves σ' -/
def Cw (l : Launch) (y : MethodName) (bytes : ByteArray) (maxL : Nat) (ret : Option FieldType) (rm : Room) (av : List Value) (w : St → va_W) (tys : TyL) (σ : St) (v : Option Value) (σ' : St) : Prop :=
  ∀ (D : va_G) (sz : Nat), Met l y (.code y bytes maxL ret :: TB) rm (va_Pc av (Pw D w tys σ sz)) (Qw D w σ' v (aA w sz)) 0 0 (aA w sz)
/-- the contract of a method without a world -/
def Cs (l : Launch) (y : MethodName) (bytes : ByteArray) (maxL : Nat) (ret : Option FieldType) (rm : Room) (av : List Value) (v : Option Value) : Prop :=
  Met l y (.code y bytes maxL ret :: TB) rm (va_Pc av (fun _ => True)) (Qs v) 0 0 (fun _ => False)
/-- what the tables say of a method -/
def MF (y : MethodName) (bytes : ByteArray) (maxL : Nat) (ret : Option FieldType) (n : Nat) : Prop :=
  Cond.code y bytes maxL ret ∈ TB ∧ Cond.initialized y.cls ∈ TB ∧ (y.cls ≠ "java/lang/invoke/MethodHandle" ∧ y.cls ≠ "java/lang/invoke/VarHandle" ∧ (parseMethodDescriptor y.desc).map (fun d => d.parameters.length) = some n)
def MI (y : MethodName) : Prop := Cond.instanceMethod y ∈ TB ∧ Cond.selects y.cls y y ∈ TB
def sameW (w : St → va_W) : Prop := ∀ σ σ', (w σ).map Prod.fst = (w σ').map Prod.fst
theorem Kx.moved {D : va_G} {tys : TyL} {s U : State} (hW : s.WarmedH U.vm) (h : Kx D tys s) : Kx D tys U := ⟨va_K.moved hW.alike h.1, va_Nw.warmM hW h.2.1, va_Nw.warmM hW h.2.2.1, va_Nw.warmM hW h.2.2.2⟩
theorem Kx.calling {D : va_G} {tys : TyL} {U : State} {g : JFrame} {mk : MethodId} {a : Array Value} (h : Kx D tys U) : Kx D tys (U.calling g mk a) := ⟨va_K.moved (u := U) (U := U.calling g mk a) (Vm.Alike.refl U.vm) h.1, va_Nw.same rfl rfl h.2.1, va_Nw.same rfl rfl h.2.2.1, va_Nw.same rfl rfl h.2.2.2⟩
theorem Pw.blind {D : va_G} {w : St → va_W} {tys : TyL} {σ : St} {sz : Nat} {av : List Value} : FrameBlind (va_Pc av (Pw D w tys σ sz)) := fun _ _ _ _ q => ⟨q.1, q.2.1, q.2.2.1, q.2.2.2.1.calling, q.2.2.2.2⟩
theorem aA_in {w : St → va_W} {sz : Nat} (hw : sameW w) {σ : St} {k : Nat} {q : Nat × va_E} (h : (w σ)[k]? = some q) : aA w sz q.1 := vA_same (hw σ st0) _ (va_A.in h)
/-- as the kit's Met.ofW, for a method that no native stands in for, whatever its class -/
theorem MetOfF {l : Launch} {y : MethodName} {ws ws' : List Cond} {rm : Room} {Pc : Array Value → State → Prop} {Qc : Array Value → State → Outcome → State → Prop} {mc ms : Nat} {free : Addr → Prop} {cc : ByteArray} {maxL : Nat} {ret : Option FieldType} (hy : plainFor y = true) (hw : ws = Cond.code y cc maxL ret :: ws')
    (body : ∀ p e s m args below meth c s₁, BodyLoose p l y (headSpec ws rm) cc maxL ret e s m args below meth c s₁ → c.maxLocals = maxL → Pc args s →
      W p l e (headSpec ws rm).room s m args below meth c s.heap [] 0 0 (MQ below Qc args s mc ms free) (entryFrame m args maxL)) : Met l y ws rm Pc Qc mc ms free := by
  refine MetFree.of_bodyRF (code := cc) (maxLocals := maxL) (ret := ret) hy ?_ ?_
  · intro args s m h hn
    obtain ⟨meth, c, h1, h2, h3, h4, h5, h6, -, -⟩ := Cond.code_spec hn (atoms_spec (ws := ws) h _ (by rw [hw]; exact List.mem_cons_self))
    exact ⟨meth, c, h1, h2, h3, h4, h5, h6⟩
  · intro p e s m args below meth c s₁ B hml hP _ hrun
    have hh0 : s₁.heap = s.heap := by rw [B.state]; rfl
    obtain ⟨t, a1, o, b1, b2, b3⟩ := body p e s m args below meth c s₁ B hml hP s₁ hh0 (Stand.of_body B)
    exact ⟨t, o, Steps.trans hrun a1, b1, b2, ⟨b3.1, b3.2⟩⟩
section
variable {p : Program} {l : Launch} {e : Env} {R : Room} {s : State} {m : MethodId} {args : Array Value} {below : List Frame} {meth : Method} {c : Code} {cells slots : Nat} {Q : State → Prop}
variable {D : va_G} {A : Nat → Prop} {w : St → va_W} {tys : TyL} {own : String} {cc : ByteArray} {nL : Nat} {Wd : Heap → List Loc → Prop} {σ : St} {pc : Nat} {lv : List (Nat × Value)} {rest : List Value}
/-- a method with a world, from its entry -/
theorem Cw_of {y : MethodName} {bytes : ByteArray} {maxL : Nat} {ret : Option FieldType} {rm : Room} {av : List Value} {σ' : St} {v : Option Value} (hy : plainName y.cls = true) (hw : sameW w) (hlen : (lg_sl av).length ≤ maxL)
    (body : ∀ (p : Program) (e : Env) (s : State) (m : MethodId) (args : Array Value) (below : List Frame) (meth : Method) (c : Code) (D : va_G) (A : Nat → Prop), Cb p s m args meth c y.cls bytes maxL → Cx s D A w tys → meth.sig.returnType = ret → bW p l e rm s m args below meth c 0 0 (MQ below (Qw D w σ' v A) args s 0 0 A) maxL (wd D A w s σ) 0 (lv_args 0 av) []) : Cw l y bytes maxL ret rm av w tys σ v σ' := by
  intro D sz
  refine Met.ofW (cc := bytes) (maxL := maxL) (ret := ret) hy rfl ?_
  intro p e s m args below meth c s₁ B hml hv
  obtain ⟨rfl, hsz, hP, hK, hD0⟩ := hv
  have hts := atoms_spec (ws := .code y bytes maxL ret :: TB) B.pre
  have hown : s.vm.findClass y.cls = some m.cls := findClass_of_methodNamed B.named
  have C : Cb p s m av.toArray meth c y.cls bytes maxL := ⟨B.exec, B.bytes, hml, hown, fun x hx => hts x (List.mem_cons_of_mem _ hx), B.notSynchronized⟩
  subst hsz
  have X : Cx s D (aA w s.heap.size) w tys := ⟨hK, fun σ => ⟨(hD0 σ).1, fun k q h => aA_in hw h⟩, fun q h => Or.inr h⟩
  have h := body p e s m av.toArray below meth c D (aA w s.heap.size) C X B.returns s.heap [] _ ⟨hP, va_S.rf⟩ (lv_entry av hlen)
  rw [lg_entry_eq]
  exact h
/-- a method without a world, from its entry -/
theorem Cs_of {y : MethodName} {bytes : ByteArray} {maxL : Nat} {ret : Option FieldType} {rm : Room} {av : List Value} {v : Option Value} (hy : plainFor y = true) (hlen : (lg_sl av).length ≤ maxL)
    (body : ∀ (p : Program) (e : Env) (s : State) (m : MethodId) (args : Array Value) (below : List Frame) (meth : Method) (c : Code), Cb p s m args meth c y.cls bytes maxL → meth.sig.returnType = ret → bW p l e rm s m args below meth c 0 0 (MQ below (Qs v) args s 0 0 (fun _ => False)) maxL (wn s) 0 (lv_args 0 av) []) : Cs l y bytes maxL ret rm av v := by
  refine MetOfF (cc := bytes) (maxL := maxL) (ret := ret) hy rfl ?_
  intro p e s m args below meth c s₁ B hml hv
  obtain ⟨rfl, -⟩ := hv
  have hts := atoms_spec (ws := .code y bytes maxL ret :: TB) B.pre
  have hown : s.vm.findClass y.cls = some m.cls := findClass_of_methodNamed B.named
  have C : Cb p s m av.toArray meth c y.cls bytes maxL := ⟨B.exec, B.bytes, hml, hown, fun x hx => hts x (List.mem_cons_of_mem _ hx), B.notSynchronized⟩
  have h := body p e s m av.toArray below meth c C B.returns s.heap [] _ ⟨rfl, rfl⟩ (lv_entry av hlen)
  rw [lg_entry_eq]
  exact h
/-! ends -/
theorem b_iret (C : Cb p s m args meth c own cc nL) {x : Int32} (d : decode cc pc = .ok (.ireturn, 1)) (hr : meth.sig.returnType = some .int) : bW p l e R s m args below meth c 0 0 (MQ below (Qw D w σ (some (.int x)) A) args s 0 0 A) nL (wd D A w s σ) pc lv [.int x] := fun H locs ls hW hl => W.iret C.1 C.2.1 hr (fun t ht hWm => ⟨⟨rfl, by rw [ht]; exact hW.1⟩, hW.2.F ht⟩) hW.2.2.2 d C.2.2.2.2.2
theorem b_zret (C : Cb p s m args meth c own cc nL) {x : Int32} {ty : FieldType} (d : decode cc pc = .ok (.ireturn, 1)) (hr : meth.sig.returnType = some ty) (hn : narrow ty (.int x) = .int x) : bW p l e R s m args below meth c 0 0 (MQ below (Qw D w σ (some (.int x)) A) args s 0 0 A) nL (wd D A w s σ) pc lv [.int x] := fun H locs ls hW hl => W.zret C.1 C.2.1 hr hn (fun t ht hWm => ⟨⟨rfl, by rw [ht]; exact hW.1⟩, hW.2.F ht⟩) hW.2.2.2 d C.2.2.2.2.2
theorem b_lret (C : Cb p s m args meth c own cc nL) {x : Int64} (d : decode cc pc = .ok (.lreturn, 1)) (hr : meth.sig.returnType = some .long) : bW p l e R s m args below meth c 0 0 (MQ below (Qw D w σ (some (.long x)) A) args s 0 0 A) nL (wd D A w s σ) pc lv [.long x] := fun H locs ls hW hl => W.lret C.1 C.2.1 hr (fun t ht hWm => ⟨⟨rfl, by rw [ht]; exact hW.1⟩, hW.2.F ht⟩) hW.2.2.2 d C.2.2.2.2.2
theorem b_vret (C : Cb p s m args meth c own cc nL) (d : decode cc pc = .ok (.return_, 1)) (hr : meth.sig.returnType = none) : bW p l e R s m args below meth c 0 0 (MQ below (Qw D w σ none A) args s 0 0 A) nL (wd D A w s σ) pc lv [] := fun H locs ls hW hl => W.vret C.1 C.2.1 hr (fun t ht hWm => ⟨⟨rfl, by rw [ht]; exact hW.1⟩, hW.2.F ht⟩) hW.2.2.2 d C.2.2.2.2.2
theorem wn_free {H : Heap} {locs : List Loc} (h : wn s H locs) : ∀ q ∈ locs, (fun _ : Addr => False) q.base := fun q hq => by rw [h.2] at hq; cases hq
theorem s_iret (C : Cb p s m args meth c own cc nL) {x : Int32} (d : decode cc pc = .ok (.ireturn, 1)) (hr : meth.sig.returnType = some .int) : bW p l e R s m args below meth c 0 0 (MQ below (Qs (some (.int x))) args s 0 0 (fun _ => False)) nL (wn s) pc lv [.int x] := fun H locs ls hW hl => W.iret C.1 C.2.1 hr (fun t ht hWm => ⟨rfl, by rw [ht]; exact hW.1⟩) (wn_free hW) d C.2.2.2.2.2
theorem s_zret (C : Cb p s m args meth c own cc nL) {x : Int32} {ty : FieldType} (d : decode cc pc = .ok (.ireturn, 1)) (hr : meth.sig.returnType = some ty) (hn : narrow ty (.int x) = .int x) : bW p l e R s m args below meth c 0 0 (MQ below (Qs (some (.int x))) args s 0 0 (fun _ => False)) nL (wn s) pc lv [.int x] := fun H locs ls hW hl => W.zret C.1 C.2.1 hr hn (fun t ht hWm => ⟨rfl, by rw [ht]; exact hW.1⟩) (wn_free hW) d C.2.2.2.2.2
theorem s_lret (C : Cb p s m args meth c own cc nL) {x : Int64} (d : decode cc pc = .ok (.lreturn, 1)) (hr : meth.sig.returnType = some .long) : bW p l e R s m args below meth c 0 0 (MQ below (Qs (some (.long x))) args s 0 0 (fun _ => False)) nL (wn s) pc lv [.long x] := fun H locs ls hW hl => W.lret C.1 C.2.1 hr (fun t ht hWm => ⟨rfl, by rw [ht]; exact hW.1⟩) (wn_free hW) d C.2.2.2.2.2
/-! calls -/
theorem cb_of {y : MethodName} {bytes : ByteArray} {maxL : Nat} {ret : Option FieldType} {rm : Room} {index n : Nat} (C : Cb p s m args meth c own cc nL) (hmf : MF y bytes maxL ret n) (hl : Cond.methodLink own index y ∈ TB) (h0 : rm.cells = 0 ∧ rm.slots = 0) (hR : rm.frames + 1 ≤ R.frames ∧ 8 + (maxL + 11) + rm.locals ≤ R.locals) : CallB R s args own index y bytes maxL ret (.code y bytes maxL ret :: TB) rm 0 0 n :=
  callB_of n C.2.2.2.2.1 (TB_cons hmf.1) rfl h0.1 h0.2 (C.2.2.2.2.1 _ hmf.2.1) (C.2.2.2.2.1 _ hl) hmf.2.2 hR
/-- behind a call of a method with the world -/
theorem b_after {st0 stk : List Value} {v : Option Value} {σ' : St} {H : Heap} {locs : List Loc} {ls : Array Slot} {a : Array Value} (hw : sameW w) (X : Cx s D A w tys) (hr : va_Run p l e R s m args below meth c H locs cells slots 0 0 (F0 m pc ls st0) rest (Qw D w σ' v (aA w H.size) a) (aA w H.size)) (hW : wd D A w s σ H locs) (hl : lv_has ls nL lv)
    (k : bW p l e R s m args below meth c cells slots Q nL (wd D A w s σ') (pc + 3) lv (v.toList ++ rest)) : W p l e R s m args below meth c H locs cells slots Q (F0 m pc ls st0) := by
  have hA : ∀ q, aA w H.size q → A q := fun q hq => by
    rcases hq with ⟨k, e, h⟩ | h
    · exact (X.2.1 _).2 k (q, e) h
    · exact X.2.2 q (Nat.le_trans hW.2.1 h)
  intro T hT XS
  obtain ⟨v', st₀, t, T', L, h0, X', hL, e1, e2, ⟨⟨hv, hp⟩, hz, hk⟩, st⟩ := hr T hT XS
  cases hv
  rw [h0] at hz hk
  have hS := hW.2
  obtain ⟨t2, a1, b1⟩ := k T'.heap (locs ++ L) ls ⟨by rw [e1]; exact hp, Nat.le_trans hS.1 (by rw [e1]; exact hz), fun q h1 h2 => by rw [e1, hk q (Nat.lt_of_lt_of_le h1 hS.1) (fun z => h2 (hA q z))]; exact hS.2.1 q h1 h2, fun q hq => by
      rcases List.mem_append.mp hq with h | h
      · exact hS.2.2 q h
      · exact hA _ (hL q h)⟩ hl T' rfl X'
  exact ⟨t2, st t2 a1, b1⟩
theorem b_callW (C : Cb p s m args meth c own cc nL) (hw : sameW w) (X : Cx s D A w tys) {y : MethodName} {bytes : ByteArray} {maxL : Nat} {ret : Option FieldType} {rm : Room} {As : List Value} {b : Addr} {v : Option Value} {σ' : St} {index n : Nat} {stk : List Value}
    (d : decode cc pc = .ok (.invokevirtual index, 3)) (hM : Cw l y bytes maxL ret rm (.ref b :: As) w tys σ v σ') (hmf : MF y bytes maxL ret n) (hmi : MI y) (hlk : Cond.methodLink own index y ∈ TB)
    (q0 : Nat) {ci : Nat} {fs : List Value} {q : vw_C} (he : (w σ)[q0]? = some (b, .inr (ci, fs))) (hc : cls[ci]? = some q) (hcn : q.1 = y.cls)
    (hn : As.length = n) (h0 : rm.cells = 0 ∧ rm.slots = 0) (hR : rm.frames + 1 ≤ R.frames ∧ 8 + (maxL + 11) + rm.locals ≤ R.locals) (hcs : cells ≤ R.cells ∧ slots ≤ R.slots) (hst : stk = As.reverse ++ .ref b :: rest) (hcat : (rest.map fun v => v.category).sum ≤ 8)
    (k : bW p l e R s m args below meth c cells slots Q nL (wd D A w s σ') (pc + 3) lv (v.toList ++ rest)) : bW p l e R s m args below meth c cells slots Q nL (wd D A w s σ) pc lv stk := by
  intro H locs ls hW hl
  subst hst
  refine b_after (st0 := As.reverse ++ .ref b :: rest) (stk := []) (a := (Value.ref b :: As).toArray) hw X (va_runV (Ts := TB) (As := As) (rest := rest) ⟨C.1, C.2.1, C.2.2.1, C.2.2.2.1, C.2.2.2.2.1⟩ (hM D H.size) (C := y.cls) ⟨cb_of C hmf hlk h0 hR, C.2.2.2.2.1 _ hmi.1, C.2.2.2.2.1 _ hmi.2⟩ ⟨Pw.blind, ?_, fun U hU hWm => ⟨rfl, by rw [hU], by rw [hU]; exact hW.1, X.1.moved hWm, fun σ => (X.2.1 σ).weaken (fun _ _ _ _ => trivial)⟩⟩ rfl hn hl.1 rfl (lv_room hcat) d hcs) hW hl k
  have h := va_recv X.1.1 hW.1 hc he
  rw [hcn] at h
  exact h
/-- behind a call of a method without a world -/
theorem b_afterS {st0 : List Value} {v : Option Value} {H : Heap} {locs : List Loc} {ls : Array Slot} {a : Array Value} (hr : va_Run p l e R s m args below meth c H locs cells slots 0 0 (F0 m pc ls st0) rest (Qs v a) (fun _ => False)) (hW : Wd H locs) (hl : lv_has ls nL lv)
    (k : bW p l e R s m args below meth c cells slots Q nL Wd (pc + 3) lv (v.toList ++ rest)) : W p l e R s m args below meth c H locs cells slots Q (F0 m pc ls st0) := by
  intro T hT XS
  obtain ⟨v', st₀, t, T', L, h0, X', hL, e1, e2, ⟨hv, hh⟩, st⟩ := hr T hT XS
  cases hv
  have hL0 : L = [] := List.eq_nil_iff_forall_not_mem.mpr (fun q hq => hL q hq)
  subst hL0
  rw [List.append_nil] at X'
  obtain ⟨t2, a1, b1⟩ := k T'.heap locs ls (by rw [e1, hh, h0]; exact hW) hl T' rfl X'
  exact ⟨t2, st t2 a1, b1⟩
theorem b_callS (C : Cb p s m args meth c own cc nL) {y : MethodName} {bytes : ByteArray} {maxL : Nat} {ret : Option FieldType} {rm : Room} {As : List Value} {v : Option Value} {index n : Nat} {stk : List Value}
    (d : decode cc pc = .ok (.invokestatic index, 3)) (hM : Cs l y bytes maxL ret rm As v) (hmf : MF y bytes maxL ret n) (hms : Cond.static y ∈ TB) (hlk : Cond.methodLink own index y ∈ TB)
    (hn : As.length = n) (h0 : rm.cells = 0 ∧ rm.slots = 0) (hR : rm.frames + 1 ≤ R.frames ∧ 8 + (maxL + 11) + rm.locals ≤ R.locals) (hcs : cells ≤ R.cells ∧ slots ≤ R.slots) (hst : stk = As.reverse ++ rest) (hcat : (rest.map fun v => v.category).sum ≤ 8)
    (k : bW p l e R s m args below meth c cells slots Q nL Wd (pc + 3) lv (v.toList ++ rest)) : bW p l e R s m args below meth c cells slots Q nL Wd pc lv stk := by
  intro H locs ls hW hl
  subst hst
  exact b_afterS (a := As.toArray) (va_runS (Ts := TB) (As := As) (rest := rest) ⟨C.1, C.2.1, C.2.2.1, C.2.2.2.1, C.2.2.2.2.1⟩ hM ⟨cb_of C hmf hlk h0 hR, C.2.2.2.2.1 _ hms⟩ ⟨fun _ _ _ _ q => q, fun U hU hWm => ⟨rfl, trivial⟩⟩ rfl hn hl.1 rfl (lv_room hcat) d hcs) hW hl k
theorem b_callSN (C : Cb p s m args meth c own cc nL) {y : MethodName} {bytes : ByteArray} {maxL : Nat} {ret : Option FieldType} {rm : Room} {As : List Value} {v : Option Value} {index n : Nat} {stk : List Value} {host : String}
    (d : decode cc pc = .ok (.invokestatic index, 3)) (hM : Cs l y bytes maxL ret rm As v) (hmf : MF y bytes maxL ret n) (hms : Cond.static y ∈ TB) (hlk : va_Nw (.methodLinkNest own index y host) s)
    (hn : As.length = n) (h0 : rm.cells = 0 ∧ rm.slots = 0) (hR : rm.frames + 1 ≤ R.frames ∧ 8 + (maxL + 11) + rm.locals ≤ R.locals) (hcs : cells ≤ R.cells ∧ slots ≤ R.slots) (hst : stk = As.reverse ++ rest) (hcat : (rest.map fun v => v.category).sum ≤ 8)
    (k : bW p l e R s m args below meth c cells slots Q nL Wd (pc + 3) lv (v.toList ++ rest)) : bW p l e R s m args below meth c cells slots Q nL Wd pc lv stk := by
  intro H locs ls hW hl
  subst hst
  exact b_afterS (a := As.toArray) (va_runSN (Ts := TB) (As := As) (rest := rest) ⟨C.1, C.2.1, C.2.2.1, C.2.2.2.1, C.2.2.2.2.1⟩ hM ⟨va_cnB n C.2.2.2.2.1 (TB_cons hmf.1) rfl h0.1 h0.2 hlk (C.2.2.2.2.1 _ hmf.2.1) hmf.2.2 hR, C.2.2.2.2.1 _ hms, trivial⟩ ⟨fun _ _ _ _ q => q, fun U hU hWm => ⟨rfl, trivial⟩⟩ rfl hn hl.1 rfl (lv_room hcat) d hcs) hW hl k
end
