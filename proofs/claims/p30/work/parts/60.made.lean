/-! constructors: cells that are made -/
theorem ko_inst : Cond.instanceMethod objectInit ∈ TB := TB_i 43 (by decide +kernel) rfl
theorem ko_code : Cond.code objectInit ⟨#[0xb1]⟩ 1 none ∈ TB := TB_i 44 (by decide +kernel) rfl
theorem ko_X2 : Cond.methodLink RX2 3 objectInit ∈ TB := TB_i 42 (by decide +kernel) rfl
theorem ko_X1 : Cond.methodLink RX1 3 objectInit ∈ TB := TB_i 50 (by decide +kernel) rfl
theorem ko_X0 : Cond.methodLink RX0 1 objectInit ∈ TB := TB_i 76 (by decide +kernel) rfl
/-- the world holds these cells -/
def wv (D : va_G) (A : Nat → Prop) (s : State) (ws : va_W) : Heap → List Loc → Prop := fun H locs => va_P D cls ws H ∧ va_D A ws ∧ va_S A s.heap H locs
/-- what is there behind a constructor: cells, and their array classes -/
def Bi (D : va_G) (A : Nat → Prop) : va_W × TyL → State → Prop := fun u t => va_P D cls u.1 t.heap ∧ va_K D cls u.2 t ∧ va_D A u.1
def Pi (D : va_G) (ws0 : va_W) (sz : Nat) : State → Prop := fun U => U.heap.size = sz ∧ va_P D cls ws0 U.heap ∧ Kx D [] U ∧ va_D (fun _ => True) ws0
/-- a constructor's contract -/
def Ci (l : Launch) (y : MethodName) (bytes : ByteArray) (maxL : Nat) (rm : Room) (av : List Value) (ws0 : va_W) (post : va_W × TyL → Prop) (mc ms : Nat) : Prop :=
  ∀ (D : va_G) (sz : Nat), Met l y (.code y bytes maxL none :: TB) rm (va_Pc av (Pi D ws0 sz)) (va_Qv post (Bi D (va_A ws0 sz)) (va_A ws0 sz)) mc ms (va_A ws0 sz)
theorem Pi.blind {D : va_G} {ws0 : va_W} {sz : Nat} {av : List Value} : FrameBlind (va_Pc av (Pi D ws0 sz)) := fun _ _ _ _ q => ⟨q.1, q.2.1, q.2.2.1, q.2.2.2.1.calling, q.2.2.2.2⟩
section
variable {p : Program} {l : Launch} {e : Env} {R : Room} {s : State} {m : MethodId} {args : Array Value} {below : List Frame} {meth : Method} {c : Code} {cells slots : Nat} {Q : State → Prop}
variable {D : va_G} {A : Nat → Prop} {w : St → va_W} {tys : TyL} {own : String} {cc : ByteArray} {nL : Nat} {Wd : Heap → List Loc → Prop} {σ : St} {pc : Nat} {lv : List (Nat × Value)} {rest : List Value} {ws : va_W}
theorem Ci_of {y : MethodName} {bytes : ByteArray} {maxL : Nat} {rm : Room} {av : List Value} {ws0 : va_W} {post : va_W × TyL → Prop} {mc ms : Nat} (hy : plainName y.cls = true) (hlen : (lg_sl av).length ≤ maxL)
    (body : ∀ (p : Program) (e : Env) (s : State) (m : MethodId) (args : Array Value) (below : List Frame) (meth : Method) (c : Code) (D : va_G) (A : Nat → Prop), Cb p s m args meth c y.cls bytes maxL → meth.name = y.name → meth.sig.returnType = none → Kx D [] s → (∀ q, s.heap.size ≤ q → A q) → bW p l e rm s m args below meth c 0 0 (MQ below (va_Qv post (Bi D A) A) args s mc ms A) maxL (wv D A s ws0) 0 (lv_args 0 av) []) : Ci l y bytes maxL rm av ws0 post mc ms := by
  intro D sz
  refine Met.ofW (cc := bytes) (maxL := maxL) (ret := none) hy rfl ?_
  intro p e s m args below meth c s₁ B hml hv
  obtain ⟨rfl, hsz, hP, hK, hD0⟩ := hv
  have hts := atoms_spec (ws := .code y bytes maxL none :: TB) B.pre
  have hown : s.vm.findClass y.cls = some m.cls := findClass_of_methodNamed B.named
  have hin : meth.name = y.name := (name_of_methodNamed B.named B.method).1
  have C : Cb p s m av.toArray meth c y.cls bytes maxL := ⟨B.exec, B.bytes, hml, hown, fun x hx => hts x (List.mem_cons_of_mem _ hx), B.notSynchronized⟩
  subst hsz
  have h := body p e s m av.toArray below meth c D (va_A ws0 s.heap.size) C hin B.returns hK (fun q h => Or.inr h) s.heap [] _ ⟨hP, hD0.self, va_S.rf⟩ (lv_entry av hlen)
  rw [lg_entry_eq]
  exact h
theorem b_objInit (C : Cb p s m args meth c own cc nL) {idx : Nat} {a : Nat} (hk : Cond.methodLink own idx objectInit ∈ TB) (d : decode cc pc = .ok (.invokespecial idx, 3)) (hR : 1 ≤ R.frames) (hcat : (rest.map fun v => v.category).sum + 12 ≤ R.locals) (k : bW p l e R s m args below meth c cells slots Q nL Wd (pc + 3) lv rest) : bW p l e R s m args below meth c cells slots Q nL Wd pc lv (.ref a :: rest) := fun H locs ls hW hl =>
  W.objInit C.1 C.2.1 C.2.2.2.1 (C.2.2.2.2.1 _ hk) (C.2.2.2.2.1 _ ko_inst) (C.2.2.2.2.1 _ ko_code) rfl (by rw [C.2.2.1]; exact hl.1) rfl d hR (by show 2 * 0 + _ + 12 ≤ _; omega) (W.eq (g2 := F0 m (pc + 3) ls rest) rfl (k H locs ls hW hl))
theorem b_new (C : Cb p s m args meth c own cc nL) (hK : va_K D cls tys s) (hA : ∀ q, s.heap.size ≤ q → A q) {ci idx N : Nat} {Cn : String} {T : u_T} {fs : List Value} (hin : ∀ w ∈ u_ws Cn T N, w ∈ TB) (ty : Nat → FieldType) (hty : ∀ k, k < N → parseFieldDescriptor (T k).2.2.1 = some (ty k)) (hlk : Cond.classLink own idx Cn ∈ TB) (hinst : Cond.instantiable Cn N ∈ TB) (hini : Cond.initialized Cn ∈ TB) (hc : cls[ci]? = some (Cn, T, N)) (hfs : ∀ j, j < N → defaultValue (ty j) = vp_V fs j) (hcells : cells + 1 ≤ R.cells) (hslots : slots + N ≤ R.slots) (d : decode cc pc = .ok (.new idx, 3))
    (k : ∀ q, bW p l e R s m args below meth c (cells + 1) (slots + N) Q nL (wv D A s (ws ++ [(q, .inr (ci, fs))])) (pc + 3) lv (.ref q :: rest)) : bW p l e R s m args below meth c cells slots Q nL (wv D A s ws) pc lv rest := fun H locs ls hW hl =>
  va_new C.1 C.2.1 C.2.2.2.2.1 hin ty hty C.2.2.2.1 (C.2.2.2.2.1 _ hlk) (C.2.2.2.2.1 _ hinst) (C.2.2.2.2.1 _ hini) hK hW.1 hW.2.1 hW.2.2 hA hc hfs hcells hslots d (fun q H1 hP hD hS => k q H1 locs ls ⟨hP, hD, hS⟩ hl)
theorem b_newa (C : Cb p s m args meth c own cc nL) (hK : va_K D cls tys s) (hA : ∀ q, s.heap.size ≤ q → A q) {atype : ArrayType} {ty : FieldType} (hty : newarray.typeOf atype = ty) (harr : Cond.arrayClass ty ∈ TB) {n : Int32} {N' : Nat} {a0 : vp_A} (ha : ∀ cA : ClassId, vp_cell cA a0 = arrV cA N' (fun _ => defaultValue ty)) (hn : ¬ n < 0) (hN : n.toNatClampNeg = N') (hbytes : N' * componentBytes ty ≤ 536870912) (hcells : cells + 1 ≤ R.cells) (hslots : slots + N' ≤ R.slots) (d : decode cc pc = .ok (.newarray atype, 2))
    (k : ∀ (q : Nat) (cA : ClassId), va_K D cls (tys ++ [(cA, ty)]) s → bW p l e R s m args below meth c (cells + 1) (slots + N') Q nL (wv D A s (ws ++ [(q, .inl (cA, a0))])) (pc + 2) lv (.ref q :: rest)) : bW p l e R s m args below meth c cells slots Q nL (wv D A s ws) pc lv (.int n :: rest) := fun H locs ls hW hl =>
  va_newa C.1 C.2.1 (by rw [hty]; exact C.2.2.2.2.1 _ harr) hty hK hW.1 hW.2.1 hW.2.2 hA ha hn hN hbytes hcells hslots d (fun q cA H1 hK1 hP hD hS => k q cA hK1 H1 locs ls ⟨hP, hD, hS⟩ hl)
theorem b_putF (C : Cb p s m args meth c own cc nL) (hn0 : meth.name = "<init>") (hK : va_K D cls tys s) {ci idx N a : Nat} {T : u_T} {fs : List Value} (hin : ∀ w ∈ u_ws own T N, w ∈ TB) (ty0 : Nat → FieldType) (hty : ∀ k, k < N → parseFieldDescriptor (T k).2.2.1 = some (ty0 k)) (hnm : ∀ a, a < N → ∀ b, b < N → a ≠ b → (T a).2.1 ≠ (T b).2.1) (q0 : Nat) (he : ws[q0]? = some (a, .inr (ci, fs))) (hc : cls[ci]? = some (own, T, N)) (k0 : Nat) (hk : k0 < N) (hlk : Cond.fieldLink own idx own (T k0).2.1 (T k0).2.2.1 ∈ TB) (hdecl : (T k0).1 = own) (hfin : (T k0).2.2.2 = true) {ty : FieldType} {v : Value} (hd : parseFieldDescriptor (T k0).2.2.1 = some ty) (hnr : narrow ty v = v) (hfit : fits ty v = true) (hl0 : k0 < fs.length) (d : decode cc pc = .ok (.putfield idx, 3))
    (k : bW p l e R s m args below meth c cells slots Q nL (wv D A s (ws.set q0 (a, .inr (ci, fs.set k0 v)))) (pc + 3) lv rest) : bW p l e R s m args below meth c cells slots Q nL (wv D A s ws) pc lv (v :: .ref a :: rest) := fun H locs ls hW hl =>
  va_putF (ref := own) C.1 C.2.1 C.2.2.2.2.1 hin ty0 hty hnm C.2.2.2.1 hK hW.1 hW.2.1 hW.2.2 q0 he hc k0 hk (C.2.2.2.2.1 _ hlk) (fun _ h9 => by rw [hdecl] at h9; exact h9) hfin hn0 hdecl hd hnr hfit hl0 d (fun H1 locs1 hP hD hS => k H1 locs1 ls ⟨hP, hD, hS⟩ hl)
theorem b_eq {ws' : va_W} (h : ws = ws') (k : bW p l e R s m args below meth c cells slots Q nL (wv D A s ws') pc lv rest) : bW p l e R s m args below meth c cells slots Q nL (wv D A s ws) pc lv rest := by subst h; exact k
/-- the end of a constructor -/
theorem b_iend (C : Cb p s m args meth c own cc nL) (hr : meth.sig.returnType = none) (hK : va_K D cls tys s) {post : va_W × TyL → Prop} (hp : post (ws, tys)) {mc ms : Nat} (hc : cells ≤ mc) (hs : slots ≤ ms) (d : decode cc pc = .ok (.return_, 1)) : bW p l e R s m args below meth c cells slots (MQ below (va_Qv post (Bi D A) A) args s mc ms A) nL (wv D A s ws) pc lv [] := fun H locs ls hW hl =>
  W.widen (k := mc) (n := ms) hc hs (W.vret C.1 C.2.1 hr (fun t ht hWm => ⟨⟨(ws, tys), rfl, hp, by rw [ht]; exact hW.1, va_K.moved hWm.alike hK, hW.2.1⟩, hW.2.2.F ht⟩) hW.2.2.2.2 d C.2.2.2.2.2)
/-- behind a constructor's call -/
theorem b_afterI {post : va_W × TyL → Prop} {mc ms : Nat} {wc wr : va_W} {st0 : List Value} {a : Array Value} (hK : va_K D cls tys s) (hA : ∀ q, s.heap.size ≤ q → A q) {isC isR : List Nat} (hC : isC.map (fun i => ws[i]?) = wc.map some) (hR : isR.map (fun i => ws[i]?) = wr.map some) (hnC : va_nd isC = true) (hn : va_nd isR = true) (hdis : ∀ i ∈ isR, i ∉ isC)
    (hr : ∀ (H : Heap) (locs : List Loc) (ls : Array Slot), va_P D cls wc H → va_D A wc → lv_has ls nL lv → va_Run p l e R s m args below meth c H locs cells slots mc ms (F0 m pc ls st0) rest (va_Qv post (Bi D (va_A wc H.size)) (va_A wc H.size) a) (va_A wc H.size))
    (k : ∀ u : va_W × TyL, post u → va_K D cls (tys ++ u.2) s → bW p l e R s m args below meth c (cells + mc) (slots + ms) Q nL (wv D A s (wr ++ u.1)) (pc + 3) lv rest) : bW p l e R s m args below meth c cells slots Q nL (wv D A s ws) pc lv st0 := by
  intro H locs ls hW hl
  have hsub : isC.filterMap (fun i => ws[i]?) = wc := by
    have h1 : (isC.map (fun i => ws[i]?)).filterMap id = wc := by rw [hC, List.filterMap_map]; simp
    rw [← h1, List.filterMap_map]; rfl
  have hP := hW.1.sub isC hsub
  have hDs : va_D A wc := hW.2.1.sub isC hnC hC
  have hF := va_free (wc := wc) hW.2.1 hW.2.2 hA isC hC
  refine va_callv (hr H locs ls hP hDs hl) hW.2.2 (fun q _ h => hF q h) hF (fun u t H1 locs1 ht hvm hp hB hz1 hk1 hS => ?_)
  obtain ⟨hP1, hK1, hD1⟩ := hB
  rw [ht] at hP1
  obtain ⟨hP2, hD2⟩ := va_join (wr := wr) (w1 := u.1) hW.1 hW.2.1 isC isR hC hR hn hdis hk1 hF hP1 hD1
  exact k u hp (hK.app (va_K.moved hvm.symm hK1)) H1 locs1 ls ⟨hP2, hD2, hS⟩ hl
theorem cb_ofI {y : MethodName} {bytes : ByteArray} {maxL : Nat} {rm : Room} {index n mc ms : Nat} (C : Cb p s m args meth c own cc nL) (hmf : MF y bytes maxL none n) (hl : Cond.methodLink own index y ∈ TB) (h0 : rm.cells = mc ∧ rm.slots = ms) (hR : rm.frames + 1 ≤ R.frames ∧ 8 + (maxL + 11) + rm.locals ≤ R.locals) : CallB R s args own index y bytes maxL none (.code y bytes maxL none :: TB) rm mc ms n :=
  callB_of n C.2.2.2.2.1 (TB_cons hmf.1) rfl h0.1 h0.2 (C.2.2.2.2.1 _ hmf.2.1) (C.2.2.2.2.1 _ hl) hmf.2.2 hR
/-- a constructor is called, on the cell that was made last -/
theorem b_callI (C : Cb p s m args meth c own cc nL) {tysx : TyL} (hK : va_K D cls tys s) (hX : Kx D tysx s) (hA : ∀ q, s.heap.size ≤ q → A q) {y : MethodName} {bytes : ByteArray} {maxL : Nat} {rm : Room} {As : List Value} {b : Addr} {e0 : va_E} {post : va_W × TyL → Prop} {mc ms index n : Nat} {stk : List Value} {wr : va_W} (isC isR : List Nat) (hC : isC.map (fun i => ws[i]?) = [(b, e0)].map some) (hR' : isR.map (fun i => ws[i]?) = wr.map some) (hnC : va_nd isC = true) (hnR : va_nd isR = true) (hdis : ∀ i ∈ isR, i ∉ isC)
    (d : decode cc pc = .ok (.invokespecial index, 3)) (hM : Ci l y bytes maxL rm (.ref b :: As) [(b, e0)] post mc ms) (hmf : MF y bytes maxL none n) (hii : Cond.instanceMethod y ∈ TB) (hname : y.name = "<init>") (hlk : Cond.methodLink own index y ∈ TB) (hn : As.length = n) (h0 : rm.cells = mc ∧ rm.slots = ms) (hR : rm.frames + 1 ≤ R.frames ∧ 8 + (maxL + 11) + rm.locals ≤ R.locals) (hcs : cells + mc ≤ R.cells ∧ slots + ms ≤ R.slots) (hst : stk = As.reverse ++ .ref b :: rest) (hcat : (rest.map fun v => v.category).sum ≤ 8)
    (k : ∀ u : va_W × TyL, post u → va_K D cls (tys ++ u.2) s → bW p l e R s m args below meth c (cells + mc) (slots + ms) Q nL (wv D A s (wr ++ u.1)) (pc + 3) lv rest) : bW p l e R s m args below meth c cells slots Q nL (wv D A s ws) pc lv stk := by
  subst hst
  have hX0 : Kx D [] s := ⟨hX.1.sub [] rfl, hX.2⟩
  exact b_afterI (a := (Value.ref b :: As).toArray) hK hA hC hR' hnC hnR hdis (fun H locs ls hP hD hl => va_runI (Ts := TB) (As := As) (rest := rest) ⟨C.1, C.2.1, C.2.2.1, C.2.2.2.1, C.2.2.2.2.1⟩ (hM D H.size) ⟨cb_ofI C hmf hlk h0 hR, hname, C.2.2.2.2.1 _ hii⟩ ⟨Pi.blind, fun U hU hWm => ⟨rfl, by rw [hU], by rw [hU]; exact hP, hX0.moved hWm, hD.weaken (fun _ _ _ _ => trivial)⟩⟩ rfl hn hl.1 rfl (lv_room hcat) d hcs) k
/-- a nest mate's private constructor is called -/
theorem b_callIN (C : Cb p s m args meth c own cc nL) {tysx : TyL} (hK : va_K D cls tys s) (hX : Kx D tysx s) (hA : ∀ q, s.heap.size ≤ q → A q) {y : MethodName} {bytes : ByteArray} {maxL : Nat} {rm : Room} {As : List Value} {b : Addr} {e0 : va_E} {post : va_W × TyL → Prop} {mc ms index n : Nat} {stk : List Value} {wr : va_W} {host : String} (isC isR : List Nat) (hC : isC.map (fun i => ws[i]?) = [(b, e0)].map some) (hR' : isR.map (fun i => ws[i]?) = wr.map some) (hnC : va_nd isC = true) (hnR : va_nd isR = true) (hdis : ∀ i ∈ isR, i ∉ isC)
    (d : decode cc pc = .ok (.invokespecial index, 3)) (hM : Ci l y bytes maxL rm (.ref b :: As) [(b, e0)] post mc ms) (hmf : MF y bytes maxL none n) (hii : Cond.instanceMethod y ∈ TB) (hname : y.name = "<init>") (hlk : va_Nw (.methodLinkNest own index y host) s) (hn : As.length = n) (h0 : rm.cells = mc ∧ rm.slots = ms) (hR : rm.frames + 1 ≤ R.frames ∧ 8 + (maxL + 11) + rm.locals ≤ R.locals) (hcs : cells + mc ≤ R.cells ∧ slots + ms ≤ R.slots) (hst : stk = As.reverse ++ .ref b :: rest) (hcat : (rest.map fun v => v.category).sum ≤ 8)
    (k : ∀ u : va_W × TyL, post u → va_K D cls (tys ++ u.2) s → bW p l e R s m args below meth c (cells + mc) (slots + ms) Q nL (wv D A s (wr ++ u.1)) (pc + 3) lv rest) : bW p l e R s m args below meth c cells slots Q nL (wv D A s ws) pc lv stk := by
  subst hst
  have hX0 : Kx D [] s := ⟨hX.1.sub [] rfl, hX.2⟩
  exact b_afterI (a := (Value.ref b :: As).toArray) hK hA hC hR' hnC hnR hdis (fun H locs ls hP hD hl => va_runIN (Ts := TB) (As := As) (rest := rest) ⟨C.1, C.2.1, C.2.2.1, C.2.2.2.1, C.2.2.2.2.1⟩ (hM D H.size) ⟨va_cnB n C.2.2.2.2.1 (TB_cons hmf.1) rfl h0.1 h0.2 hlk (C.2.2.2.2.1 _ hmf.2.1) hmf.2.2 hR, hname, C.2.2.2.2.1 _ hii⟩ ⟨Pi.blind, fun U hU hWm => ⟨rfl, by rw [hU], by rw [hU]; exact hP, hX0.moved hWm, hD.weaken (fun _ _ _ _ => trivial)⟩⟩ rfl hn hl.1 rfl (lv_room hcat) d hcs) k
/-- these cells are a world's -/
theorem b_world {w : St → va_W} {tysx : TyL} (hw : sameW w) {σ : St} (h : ws = w σ) (hK : va_K D cls tys s) (hX : Kx D tysx s) (hA : ∀ q, s.heap.size ≤ q → A q) (k : Cx s D A w tys → bW p l e R s m args below meth c cells slots Q nL (wd D A w s σ) pc lv rest) : bW p l e R s m args below meth c cells slots Q nL (wv D A s ws) pc lv rest := by
  subst h
  intro H locs ls hW hl
  exact k ⟨⟨hK, hX.2⟩, fun σ' => vD_same (hw σ σ') hW.2.1, hA⟩ H locs ls ⟨hW.1, hW.2.2⟩ hl
theorem b_unworld {w : St → va_W} {σ : St} (X : Cx s D A w tys) (k : bW p l e R s m args below meth c cells slots Q nL (wv D A s (w σ)) pc lv rest) : bW p l e R s m args below meth c cells slots Q nL (wd D A w s σ) pc lv rest := fun H locs ls hW hl => k H locs ls ⟨hW.1, X.2.1 σ, hW.2⟩ hl
end
