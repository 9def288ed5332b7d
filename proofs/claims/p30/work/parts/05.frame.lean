/-! the state of class or reference, as pure functions: ints, longs, int arrays, long arrays -/
abbrev St : Type := (Nat → Int32) × (Nat → Int64) × (Nat → Nat → Int32) × (Nat → Nat → Int64)
def gI (σ : St) (k : Nat) : Int32 := σ.1 k
def gJ (σ : St) (k : Nat) : Int64 := σ.2.1 k
def gF (σ : St) (a : Nat) : Nat → Int32 := σ.2.2.1 a
def gG (σ : St) (a : Nat) : Nat → Int64 := σ.2.2.2 a
def sI (σ : St) (k : Nat) (v : Int32) : St := (fun j => if j = k then v else σ.1 j, σ.2)
def sJ (σ : St) (k : Nat) (v : Int64) : St := (σ.1, fun j => if j = k then v else σ.2.1 j, σ.2.2)
def sF (σ : St) (a : Nat) (f : Nat → Int32) : St := (σ.1, σ.2.1, fun b => if b = a then f else σ.2.2.1 b, σ.2.2.2)
def sG (σ : St) (a : Nat) (f : Nat → Int64) : St := (σ.1, σ.2.1, σ.2.2.1, fun b => if b = a then f else σ.2.2.2 b)
def st0 : St := (fun _ => 0, fun _ => 0, fun _ _ => 0, fun _ _ => 0)
/-! programs that may fail: their steps, and what follows from an answer -/
def bd0 {α γ : Type} (x : Option α) (k : α → Option γ) : Option γ := match x with
  | none => none
  | some a => k a
def bd2 {α β γ : Type} (x : Option (α × β)) (k : α → β → Option γ) : Option γ := match x with
  | none => none
  | some (a, b) => k a b
theorem bd0_inv {α γ : Type} {x : Option α} {k : α → Option γ} {y : γ} (h : bd0 x k = some y) : ∃ a, x = some a ∧ k a = some y := by
  cases x with
  | none => cases h
  | some a => exact ⟨a, rfl, h⟩
theorem bd2_inv {α β γ : Type} {x : Option (α × β)} {k : α → β → Option γ} {y : γ} (h : bd2 x k = some y) : ∃ a b, x = some (a, b) ∧ k a b = some y := by
  cases x with
  | none => cases h
  | some q => exact ⟨q.1, q.2, rfl, h⟩
theorem ipos {α : Type} {c : Prop} {_i : Decidable c} {a b r : α} (h : (if c then a else b) = r) (hc : c) : a = r := by
  rw [if_pos hc] at h; exact h
theorem ineg {α : Type} {c : Prop} {_i : Decidable c} {a b r : α} (h : (if c then a else b) = r) (hc : ¬ c) : b = r := by
  rw [if_neg hc] at h; exact h
theorem gdn {α : Type} {c : Prop} {_i : Decidable c} {a : Option α} {r : α} (h : (if c then none else a) = some r) : ¬ c ∧ a = some r := by
  by_cases hc : c
  · rw [if_pos hc] at h; cases h
  · rw [if_neg hc] at h; exact ⟨hc, h⟩
theorem nn {α : Type} {r : α} {P : Prop} (h : (none : Option α) = some r) : P := by cases h
theorem so1 {α : Type} {a b : α} (h : some a = some b) : a = b := Option.some.inj h
theorem so2 {α β : Type} {a c : α} {b d : β} (h : some (a, b) = some (c, d)) : a = c ∧ b = d := by
  have h1 := Option.some.inj h
  exact ⟨congrArg Prod.fst h1, congrArg Prod.snd h1⟩
/-! the tables' words -/
def TB : List Cond := lw_tbl.filter goodWord
theorem TB_all : TB.all goodWord = true := List.all_eq_true.mpr (fun _ h => (List.mem_filter.mp h).2)
theorem TB_of {args : Array Value} {s : State} (h : ∀ w ∈ lw_tbl, w.before args s = true) : ∀ w ∈ TB, w.before args s = true := fun w hw => h w (List.mem_filter.mp hw).1
theorem TB_i {w : Cond} (i : Nat) (h : lw_tbl[i]? = some w) (hg : goodWord w = true) : w ∈ TB := List.mem_filter.mpr ⟨List.mem_of_getElem? h, hg⟩
theorem TB_good : GoodIn TB TB := fun w hw => ⟨hw, good_of_word (List.all_eq_true.mp TB_all w hw)⟩
theorem TB_cons {y : MethodName} {cc : ByteArray} {n : Nat} {ret : Option FieldType} (h : Cond.code y cc n ret ∈ TB) : GoodIn TB (Cond.code y cc n ret :: TB) := by
  intro w hw
  rcases List.mem_cons.mp hw with rfl | hw
  · exact TB_good _ h
  · exact TB_good _ hw
abbrev cls : List vw_C := [(RX0, TX0, 3), (RX1, TX1, 6), (RX2, TX2, 12)]
/-! a long compare and the branch behind it -/
theorem lgc_3 (x y : Int64) : (lg_cmp x y = 1 ∧ y < x ∧ ¬ x = y ∧ ¬ x < y ∧ y ≤ x ∧ ¬ x ≤ y) ∨ (lg_cmp x y = 0 ∧ ¬ y < x ∧ x = y ∧ ¬ x < y ∧ y ≤ x ∧ x ≤ y) ∨ (lg_cmp x y = -1 ∧ ¬ y < x ∧ ¬ x = y ∧ x < y ∧ ¬ y ≤ x ∧ x ≤ y) := by
  by_cases h1 : y < x
  · refine Or.inl ⟨by simp [lg_cmp, h1], h1, ?_, ?_, ?_, ?_⟩
    · intro h; subst h; exact absurd h1 (Int64.lt_irrefl)
    · intro h; rw [Int64.lt_iff_toInt_lt] at h h1; omega
    · rw [Int64.le_iff_toInt_le]; rw [Int64.lt_iff_toInt_lt] at h1; omega
    · intro h; rw [Int64.le_iff_toInt_le] at h; rw [Int64.lt_iff_toInt_lt] at h1; omega
  · by_cases h2 : x = y
    · subst h2
      exact Or.inr (Or.inl ⟨by simp [lg_cmp], h1, rfl, h1, by rw [Int64.le_iff_toInt_le]; exact Int.le_refl _, by rw [Int64.le_iff_toInt_le]; exact Int.le_refl _⟩)
    · have h3 : ¬ x.toInt = y.toInt := fun h => h2 (Int64.toInt_inj.mp h)
      have h4 : ¬ y.toInt < x.toInt := by rw [← Int64.lt_iff_toInt_lt]; exact h1
      refine Or.inr (Or.inr ⟨by simp [lg_cmp, h1, h2], h1, h2, ?_, ?_, ?_⟩)
      · rw [Int64.lt_iff_toInt_lt]; omega
      · rw [Int64.le_iff_toInt_le]; omega
      · rw [Int64.le_iff_toInt_le]; omega
theorem lgc_eq {x y : Int64} : lg_cmp x y = 0 ↔ x = y := by rcases lgc_3 x y with ⟨e, h1, h2, h3, h4, h5⟩ | ⟨e, h1, h2, h3, h4, h5⟩ | ⟨e, h1, h2, h3, h4, h5⟩ <;> rw [e] <;> simp [h1, h2, h3, h4, h5]
theorem lgn_eq {x y : Int64} : ¬ lg_cmp x y = 0 ↔ ¬ x = y := not_congr lgc_eq
theorem lgc_ne {x y : Int64} : ¬ lg_cmp x y = 0 ↔ ¬ x = y := by rcases lgc_3 x y with ⟨e, h1, h2, h3, h4, h5⟩ | ⟨e, h1, h2, h3, h4, h5⟩ | ⟨e, h1, h2, h3, h4, h5⟩ <;> rw [e] <;> simp [h1, h2, h3, h4, h5]
theorem lgn_ne {x y : Int64} : lg_cmp x y = 0 ↔ x = y := lgc_eq
theorem lgc_lt {x y : Int64} : lg_cmp x y < 0 ↔ x < y := by rcases lgc_3 x y with ⟨e, h1, h2, h3, h4, h5⟩ | ⟨e, h1, h2, h3, h4, h5⟩ | ⟨e, h1, h2, h3, h4, h5⟩ <;> rw [e] <;> simp [h1, h2, h3, h4, h5]
theorem lgn_lt {x y : Int64} : ¬ lg_cmp x y < 0 ↔ ¬ x < y := not_congr lgc_lt
theorem lgc_ge {x y : Int64} : 0 ≤ lg_cmp x y ↔ y ≤ x := by rcases lgc_3 x y with ⟨e, h1, h2, h3, h4, h5⟩ | ⟨e, h1, h2, h3, h4, h5⟩ | ⟨e, h1, h2, h3, h4, h5⟩ <;> rw [e] <;> simp [h1, h2, h3, h4, h5]
theorem lgn_ge {x y : Int64} : ¬ 0 ≤ lg_cmp x y ↔ ¬ y ≤ x := not_congr lgc_ge
theorem lgc_gt {x y : Int64} : 0 < lg_cmp x y ↔ y < x := by rcases lgc_3 x y with ⟨e, h1, h2, h3, h4, h5⟩ | ⟨e, h1, h2, h3, h4, h5⟩ | ⟨e, h1, h2, h3, h4, h5⟩ <;> rw [e] <;> simp [h1, h2, h3, h4, h5]
theorem lgn_gt {x y : Int64} : ¬ 0 < lg_cmp x y ↔ ¬ y < x := not_congr lgc_gt
theorem lgc_le {x y : Int64} : lg_cmp x y ≤ 0 ↔ x ≤ y := by rcases lgc_3 x y with ⟨e, h1, h2, h3, h4, h5⟩ | ⟨e, h1, h2, h3, h4, h5⟩ | ⟨e, h1, h2, h3, h4, h5⟩ <;> rw [e] <;> simp [h1, h2, h3, h4, h5]
theorem lgn_le {x y : Int64} : ¬ lg_cmp x y ≤ 0 ↔ ¬ x ≤ y := not_congr lgc_le
/-! worlds -/
abbrev TyL : Type := List (ClassId × FieldType)
/-- the same addresses -/
theorem vD_same {A : Nat → Prop} : ∀ {w w' : va_W}, w.map Prod.fst = w'.map Prod.fst → va_D A w → va_D A w' := by
  intro w w' h hD
  have key : ∀ (k : Nat) (q : Nat × va_E), w'[k]? = some q → ∃ q0, w[k]? = some q0 ∧ q0.1 = q.1 := by
    intro k q hk
    have h1 : (w'.map Prod.fst)[k]? = some q.1 := by rw [List.getElem?_map, hk]; rfl
    rw [← h, List.getElem?_map] at h1
    cases hq : w[k]? with
    | none => rw [hq] at h1; cases h1
    | some q0 => rw [hq] at h1; exact ⟨q0, rfl, Option.some.inj h1⟩
  refine ⟨fun i j p q hi hj hpq => ?_, fun k q hk => ?_⟩
  · obtain ⟨p0, h1, h2⟩ := key i p hi
    obtain ⟨q0, h3, h4⟩ := key j q hj
    exact hD.1 i j p0 q0 h1 h3 (h2.trans (hpq.trans h4.symm))
  · obtain ⟨q0, h1, h2⟩ := key k q hk
    rw [← h2]; exact hD.2 k q0 h1
theorem vA_same {sz : Nat} : ∀ {w w' : va_W}, w.map Prod.fst = w'.map Prod.fst → ∀ q, va_A w sz q → va_A w' sz q := by
  intro w w' h q hq
  rcases hq with ⟨k, e, hk⟩ | hq
  · have h1 : (w.map Prod.fst)[k]? = some q := by rw [List.getElem?_map, hk]; rfl
    rw [h, List.getElem?_map] at h1
    cases hq2 : w'[k]? with
    | none => rw [hq2] at h1; cases h1
    | some q0 =>
      rw [hq2] at h1
      have h3 : q0.1 = q := Option.some.inj h1
      exact Or.inl ⟨k, q0.2, by rw [hq2, ← h3]⟩
  · exact Or.inr hq
def aA (w : St → va_W) (sz : Nat) : Nat → Prop := va_A (w st0) sz
/-- what stands fixed through a method's body: the machine, the code, the tables' words -/
def Cb (p : Program) (s : State) (m : MethodId) (args : Array Value) (meth : Method) (c : Code) (own : String) (cc : ByteArray) (nL : Nat) : Prop :=
  p.tables.exec = Jvm.exec ∧ c.code = cc ∧ c.maxLocals = nL ∧ s.vm.findClass own = some m.cls ∧ (∀ x ∈ TB, x.before args s = true) ∧ meth.locks = false
/-- the words of nest mates -/
def nw1 : Cond := .methodLinkNest "IntervalAgreement" 11 ⟨"IntervalAgreement$IntervalText", "<init>", "()V"⟩ "IntervalAgreement"
def nw2 : Cond := .methodLinkNest "IntervalAgreement$IntervalText" 48 ⟨"IntervalAgreement", "isOnGrid", "(JJJ)Z"⟩ "IntervalAgreement"
def nw3 : Cond := .methodLinkNest "IntervalAgreement$IntervalText" 52 ⟨"IntervalAgreement", "inUnits", "(JJJ)J"⟩ "IntervalAgreement"
/-- classes, arrays' classes, nest mates -/
def Kx (D : va_G) (tys : TyL) (U : State) : Prop := va_K D cls tys U ∧ va_Nw nw1 U ∧ va_Nw nw2 U ∧ va_Nw nw3 U
/-- what stands fixed of the world: classes, addresses apart -/
def Cx (s : State) (D : va_G) (A : Nat → Prop) (w : St → va_W) (tys : TyL) : Prop := Kx D tys s ∧ (∀ σ, va_D A (w σ)) ∧ (∀ q, s.heap.size ≤ q → A q)
/-- the world holds a state, and nothing else was written -/
def wd (D : va_G) (A : Nat → Prop) (w : St → va_W) (s : State) (σ : St) : Heap → List Loc → Prop := fun H locs => va_P D cls (w σ) H ∧ va_S A s.heap H locs
/-- nothing was written at all -/
def wn (s : State) : Heap → List Loc → Prop := fun H locs => H = s.heap ∧ locs = []
section
variable {p : Program} {l : Launch} {e : Env} {R : Room} {s : State} {m : MethodId} {args : Array Value} {below : List Frame} {meth : Method} {c : Code} {cells slots : Nat} {Q : State → Prop}
variable {D : va_G} {A : Nat → Prop} {w : St → va_W} {tys : TyL} {own : String} {cc : ByteArray} {nL : Nat} {Wd : Heap → List Loc → Prop} {σ : St} {pc : Nat} {lv : List (Nat × Value)} {rest : List Value}
def bW (p : Program) (l : Launch) (e : Env) (R : Room) (s : State) (m : MethodId) (args : Array Value) (below : List Frame) (meth : Method) (c : Code) (cells slots : Nat) (Q : State → Prop) (nL : Nat) (Wd : Heap → List Loc → Prop) (pc : Nat) (lv : List (Nat × Value)) (stk : List Value) : Prop :=
  ∀ (H : Heap) (locs : List Loc) (ls : Array Slot), Wd H locs → lv_has ls nL lv → W p l e R s m args below meth c H locs cells slots Q (F0 m pc ls stk)
/-- fewer locals -/
theorem b_sub {lv' : List (Nat × Value)} (ks : List Nat) (h : lv_pick lv ks = lv') (k : bW p l e R s m args below meth c cells slots Q nL Wd pc lv' rest) : bW p l e R s m args below meth c cells slots Q nL Wd pc lv rest := fun H locs ls hW hl => k H locs ls hW (lv_sub hl ks h)
theorem b_iconst (C : Cb p s m args meth c own cc nL) {n : Int} {v : Int32} (d : decode cc pc = .ok (.iconst n, 1)) (hv : Int32.ofInt n = v) (k : bW p l e R s m args below meth c cells slots Q nL Wd (pc + 1) lv (.int v :: rest)) : bW p l e R s m args below meth c cells slots Q nL Wd pc lv rest := fun H locs ls hW hl => lv_iconst C.1 C.2.1 d hv (k H locs ls hW hl)
theorem b_bipush (C : Cb p s m args meth c own cc nL) {n : Int} {v : Int32} (d : decode cc pc = .ok (.bipush n, 2)) (hv : (Int8.ofInt n).toInt32 = v) (k : bW p l e R s m args below meth c cells slots Q nL Wd (pc + 2) lv (.int v :: rest)) : bW p l e R s m args below meth c cells slots Q nL Wd pc lv rest := fun H locs ls hW hl => lv_bipush C.1 C.2.1 d hv (k H locs ls hW hl)
theorem b_sipush (C : Cb p s m args meth c own cc nL) {n : Int} {v : Int32} (d : decode cc pc = .ok (.sipush n, 3)) (hv : (Int16.ofInt n).toInt32 = v) (k : bW p l e R s m args below meth c cells slots Q nL Wd (pc + 3) lv (.int v :: rest)) : bW p l e R s m args below meth c cells slots Q nL Wd pc lv rest := fun H locs ls hW hl => lv_sipush C.1 C.2.1 d hv (k H locs ls hW hl)
theorem b_lconst (C : Cb p s m args meth c own cc nL) {n : Fin 2} {v : Int64} (d : decode cc pc = .ok (.lconst n, 1)) (hv : Int64.ofNat (n : Nat) = v) (k : bW p l e R s m args below meth c cells slots Q nL Wd (pc + 1) lv (.long v :: rest)) : bW p l e R s m args below meth c cells slots Q nL Wd pc lv rest := fun H locs ls hW hl => lv_lconst C.1 C.2.1 d hv (k H locs ls hW hl)
theorem b_ldc (C : Cb p s m args meth c own cc nL) {i : Nat} {v : Int32} (d : decode cc pc = .ok (.ldc i, 2)) (hw : Cond.constant own i v ∈ TB) (k : bW p l e R s m args below meth c cells slots Q nL Wd (pc + 2) lv (.int v :: rest)) : bW p l e R s m args below meth c cells slots Q nL Wd pc lv rest := fun H locs ls hW hl => lv_ldc C.1 C.2.1 C.2.2.2.1 (C.2.2.2.2.1 _ hw) d (k H locs ls hW hl)
theorem b_ldcw (C : Cb p s m args meth c own cc nL) {i : Nat} {v : Int32} (d : decode cc pc = .ok (.ldc_w i, 3)) (hw : Cond.constant own i v ∈ TB) (k : bW p l e R s m args below meth c cells slots Q nL Wd (pc + 3) lv (.int v :: rest)) : bW p l e R s m args below meth c cells slots Q nL Wd pc lv rest := fun H locs ls hW hl => lv_ldcw C.1 C.2.1 C.2.2.2.1 (C.2.2.2.2.1 _ hw) d (k H locs ls hW hl)
theorem b_ldc2 (C : Cb p s m args meth c own cc nL) {i : Nat} {v : Int64} (d : decode cc pc = .ok (.ldc2_w i, 3)) (hw : Cond.constantLong own i v ∈ TB) (k : bW p l e R s m args below meth c cells slots Q nL Wd (pc + 3) lv (.long v :: rest)) : bW p l e R s m args below meth c cells slots Q nL Wd pc lv rest := fun H locs ls hW hl => lv_ldc2 C.1 C.2.1 C.2.2.2.1 (C.2.2.2.2.1 _ hw) d (k H locs ls hW hl)
theorem b_iload_n (C : Cb p s m args meth c own cc nL) {k : Fin 4} {x : Int32} (j : Nat) (d : decode cc pc = .ok (.iload_n k, 1)) {i : Nat} (hi : (k : Nat) = i) (hj : lv[j]? = some (i, .int x)) (kk : bW p l e R s m args below meth c cells slots Q nL Wd (pc + 1) lv (.int x :: rest)) : bW p l e R s m args below meth c cells slots Q nL Wd pc lv rest := fun H locs ls hW hl => lv_iload_n C.1 C.2.1 d hi (lv_at hl j hj) (kk H locs ls hW hl)
theorem b_iload (C : Cb p s m args meth c own cc nL) {i : Nat} {x : Int32} (j : Nat) (d : decode cc pc = .ok (.iload i, 2)) (hj : lv[j]? = some (i, .int x)) (kk : bW p l e R s m args below meth c cells slots Q nL Wd (pc + 2) lv (.int x :: rest)) : bW p l e R s m args below meth c cells slots Q nL Wd pc lv rest := fun H locs ls hW hl => lv_iload C.1 C.2.1 d (lv_at hl j hj) (kk H locs ls hW hl)
theorem b_lload_n (C : Cb p s m args meth c own cc nL) {k : Fin 4} {x : Int64} (j : Nat) (d : decode cc pc = .ok (.lload_n k, 1)) {i : Nat} (hi : (k : Nat) = i) (hj : lv[j]? = some (i, .long x)) (kk : bW p l e R s m args below meth c cells slots Q nL Wd (pc + 1) lv (.long x :: rest)) : bW p l e R s m args below meth c cells slots Q nL Wd pc lv rest := fun H locs ls hW hl => lv_lload_n C.1 C.2.1 d hi (lv_at hl j hj) (kk H locs ls hW hl)
theorem b_lload (C : Cb p s m args meth c own cc nL) {i : Nat} {x : Int64} (j : Nat) (d : decode cc pc = .ok (.lload i, 2)) (hj : lv[j]? = some (i, .long x)) (kk : bW p l e R s m args below meth c cells slots Q nL Wd (pc + 2) lv (.long x :: rest)) : bW p l e R s m args below meth c cells slots Q nL Wd pc lv rest := fun H locs ls hW hl => lv_lload C.1 C.2.1 d (lv_at hl j hj) (kk H locs ls hW hl)
theorem b_aload_n (C : Cb p s m args meth c own cc nL) {k : Fin 4} {x : Nat} (j : Nat) (d : decode cc pc = .ok (.aload_n k, 1)) {i : Nat} (hi : (k : Nat) = i) (hj : lv[j]? = some (i, .ref x)) (kk : bW p l e R s m args below meth c cells slots Q nL Wd (pc + 1) lv (.ref x :: rest)) : bW p l e R s m args below meth c cells slots Q nL Wd pc lv rest := fun H locs ls hW hl => lv_aload_n C.1 C.2.1 d hi (lv_at hl j hj) (kk H locs ls hW hl)
theorem b_aload (C : Cb p s m args meth c own cc nL) {i : Nat} {x : Nat} (j : Nat) (d : decode cc pc = .ok (.aload i, 2)) (hj : lv[j]? = some (i, .ref x)) (kk : bW p l e R s m args below meth c cells slots Q nL Wd (pc + 2) lv (.ref x :: rest)) : bW p l e R s m args below meth c cells slots Q nL Wd pc lv rest := fun H locs ls hW hl => lv_aload C.1 C.2.1 d (lv_at hl j hj) (kk H locs ls hW hl)
theorem b_istore_n (C : Cb p s m args meth c own cc nL) {k : Fin 4} {x : Int32} {lv' : List (Nat × Value)} (d : decode cc pc = .ok (.istore_n k, 1)) {i : Nat} (hi : (k : Nat) = i) (hn : i < nL) (hv : (i, Value.int x) :: lv.filter (fun q => !(q.1 == i) && !(q.1 + 1 == i && q.2.category == 2)) = lv') (kk : bW p l e R s m args below meth c cells slots Q nL Wd (pc + 1) lv' rest) : bW p l e R s m args below meth c cells slots Q nL Wd pc lv (.int x :: rest) := fun H locs ls hW hl => lv_istore_n C.1 C.2.1 d hi hl hn hv (fun ls2 h2 => kk H locs ls2 hW h2)
theorem b_istore (C : Cb p s m args meth c own cc nL) {i : Nat} {x : Int32} {lv' : List (Nat × Value)} (d : decode cc pc = .ok (.istore i, 2)) (hn : i < nL) (hv : (i, Value.int x) :: lv.filter (fun q => !(q.1 == i) && !(q.1 + 1 == i && q.2.category == 2)) = lv') (kk : bW p l e R s m args below meth c cells slots Q nL Wd (pc + 2) lv' rest) : bW p l e R s m args below meth c cells slots Q nL Wd pc lv (.int x :: rest) := fun H locs ls hW hl => lv_istore C.1 C.2.1 d hl hn hv (fun ls2 h2 => kk H locs ls2 hW h2)
theorem b_lstore_n (C : Cb p s m args meth c own cc nL) {k : Fin 4} {x : Int64} {lv' : List (Nat × Value)} (d : decode cc pc = .ok (.lstore_n k, 1)) {i : Nat} (hi : (k : Nat) = i) (hn : i + 1 < nL) (hv : (i, Value.long x) :: lv.filter (fun q => !(q.1 == i) && (!(q.1 == i + 1) && !(q.1 + 1 == i && q.2.category == 2))) = lv') (kk : bW p l e R s m args below meth c cells slots Q nL Wd (pc + 1) lv' rest) : bW p l e R s m args below meth c cells slots Q nL Wd pc lv (.long x :: rest) := fun H locs ls hW hl => lv_lstore_n C.1 C.2.1 d hi hl hn hv (fun ls2 h2 => kk H locs ls2 hW h2)
theorem b_lstore (C : Cb p s m args meth c own cc nL) {i : Nat} {x : Int64} {lv' : List (Nat × Value)} (d : decode cc pc = .ok (.lstore i, 2)) (hn : i + 1 < nL) (hv : (i, Value.long x) :: lv.filter (fun q => !(q.1 == i) && (!(q.1 == i + 1) && !(q.1 + 1 == i && q.2.category == 2))) = lv') (kk : bW p l e R s m args below meth c cells slots Q nL Wd (pc + 2) lv' rest) : bW p l e R s m args below meth c cells slots Q nL Wd pc lv (.long x :: rest) := fun H locs ls hW hl => lv_lstore C.1 C.2.1 d hl hn hv (fun ls2 h2 => kk H locs ls2 hW h2)
theorem b_astore_n (C : Cb p s m args meth c own cc nL) {k : Fin 4} {x : Nat} {lv' : List (Nat × Value)} (d : decode cc pc = .ok (.astore_n k, 1)) {i : Nat} (hi : (k : Nat) = i) (hn : i < nL) (hv : (i, Value.ref x) :: lv.filter (fun q => !(q.1 == i) && !(q.1 + 1 == i && q.2.category == 2)) = lv') (kk : bW p l e R s m args below meth c cells slots Q nL Wd (pc + 1) lv' rest) : bW p l e R s m args below meth c cells slots Q nL Wd pc lv (.ref x :: rest) := fun H locs ls hW hl => lv_astore_n C.1 C.2.1 d hi hl hn hv (fun ls2 h2 => kk H locs ls2 hW h2)
theorem b_astore (C : Cb p s m args meth c own cc nL) {i : Nat} {x : Nat} {lv' : List (Nat × Value)} (d : decode cc pc = .ok (.astore i, 2)) (hn : i < nL) (hv : (i, Value.ref x) :: lv.filter (fun q => !(q.1 == i) && !(q.1 + 1 == i && q.2.category == 2)) = lv') (kk : bW p l e R s m args below meth c cells slots Q nL Wd (pc + 2) lv' rest) : bW p l e R s m args below meth c cells slots Q nL Wd pc lv (.ref x :: rest) := fun H locs ls hW hl => lv_astore C.1 C.2.1 d hl hn hv (fun ls2 h2 => kk H locs ls2 hW h2)
theorem b_iinc (C : Cb p s m args meth c own cc nL) {i : Nat} {n : Int} {x v : Int32} {lv' : List (Nat × Value)} (j : Nat) (d : decode cc pc = .ok (.iinc i n, 3)) (hj : lv[j]? = some (i, .int x)) (hx : x + Int32.ofInt n = v) (hn : i < nL) (hv : (i, Value.int v) :: lv.filter (fun q => !(q.1 == i) && !(q.1 + 1 == i && q.2.category == 2)) = lv') (kk : bW p l e R s m args below meth c cells slots Q nL Wd (pc + 3) lv' rest) : bW p l e R s m args below meth c cells slots Q nL Wd pc lv rest := fun H locs ls hW hl => lv_iinc C.1 C.2.1 d hl hj hx hn hv (fun ls2 h2 => kk H locs ls2 hW h2)
theorem b_iadd (C : Cb p s m args meth c own cc nL) {x : Int32} {y : Int32} (d : decode cc pc = .ok (.iadd, 1))  (k : bW p l e R s m args below meth c cells slots Q nL Wd (pc + 1) lv (.int (x + y) :: rest)) : bW p l e R s m args below meth c cells slots Q nL Wd pc lv (.int y :: .int x :: rest) := fun H locs ls hW hl => lv_iadd C.1 C.2.1 d  (k H locs ls hW hl)
theorem b_isub (C : Cb p s m args meth c own cc nL) {x : Int32} {y : Int32} (d : decode cc pc = .ok (.isub, 1))  (k : bW p l e R s m args below meth c cells slots Q nL Wd (pc + 1) lv (.int (x - y) :: rest)) : bW p l e R s m args below meth c cells slots Q nL Wd pc lv (.int y :: .int x :: rest) := fun H locs ls hW hl => lv_isub C.1 C.2.1 d  (k H locs ls hW hl)
theorem b_imul (C : Cb p s m args meth c own cc nL) {x : Int32} {y : Int32} (d : decode cc pc = .ok (.imul, 1))  (k : bW p l e R s m args below meth c cells slots Q nL Wd (pc + 1) lv (.int (x * y) :: rest)) : bW p l e R s m args below meth c cells slots Q nL Wd pc lv (.int y :: .int x :: rest) := fun H locs ls hW hl => lv_imul C.1 C.2.1 d  (k H locs ls hW hl)
theorem b_idiv (C : Cb p s m args meth c own cc nL) {x : Int32} {y : Int32} (d : decode cc pc = .ok (.idiv, 1)) (hne : ¬ y = 0) (k : bW p l e R s m args below meth c cells slots Q nL Wd (pc + 1) lv (.int (x / y) :: rest)) : bW p l e R s m args below meth c cells slots Q nL Wd pc lv (.int y :: .int x :: rest) := fun H locs ls hW hl => lv_idiv C.1 C.2.1 d hne (k H locs ls hW hl)
theorem b_irem (C : Cb p s m args meth c own cc nL) {x : Int32} {y : Int32} (d : decode cc pc = .ok (.irem, 1)) (hne : ¬ y = 0) (k : bW p l e R s m args below meth c cells slots Q nL Wd (pc + 1) lv (.int (x - x / y * y) :: rest)) : bW p l e R s m args below meth c cells slots Q nL Wd pc lv (.int y :: .int x :: rest) := fun H locs ls hW hl => lv_irem C.1 C.2.1 d hne (k H locs ls hW hl)
theorem b_ladd (C : Cb p s m args meth c own cc nL) {x : Int64} {y : Int64} (d : decode cc pc = .ok (.ladd, 1))  (k : bW p l e R s m args below meth c cells slots Q nL Wd (pc + 1) lv (.long (x + y) :: rest)) : bW p l e R s m args below meth c cells slots Q nL Wd pc lv (.long y :: .long x :: rest) := fun H locs ls hW hl => lv_ladd C.1 C.2.1 d  (k H locs ls hW hl)
theorem b_lsub (C : Cb p s m args meth c own cc nL) {x : Int64} {y : Int64} (d : decode cc pc = .ok (.lsub, 1))  (k : bW p l e R s m args below meth c cells slots Q nL Wd (pc + 1) lv (.long (x - y) :: rest)) : bW p l e R s m args below meth c cells slots Q nL Wd pc lv (.long y :: .long x :: rest) := fun H locs ls hW hl => lv_lsub C.1 C.2.1 d  (k H locs ls hW hl)
theorem b_lmul (C : Cb p s m args meth c own cc nL) {x : Int64} {y : Int64} (d : decode cc pc = .ok (.lmul, 1))  (k : bW p l e R s m args below meth c cells slots Q nL Wd (pc + 1) lv (.long (x * y) :: rest)) : bW p l e R s m args below meth c cells slots Q nL Wd pc lv (.long y :: .long x :: rest) := fun H locs ls hW hl => lv_lmul C.1 C.2.1 d  (k H locs ls hW hl)
theorem b_ldiv (C : Cb p s m args meth c own cc nL) {x : Int64} {y : Int64} (d : decode cc pc = .ok (.ldiv, 1)) (hne : ¬ y = 0) (k : bW p l e R s m args below meth c cells slots Q nL Wd (pc + 1) lv (.long (x / y) :: rest)) : bW p l e R s m args below meth c cells slots Q nL Wd pc lv (.long y :: .long x :: rest) := fun H locs ls hW hl => lv_ldiv C.1 C.2.1 d hne (k H locs ls hW hl)
theorem b_lrem (C : Cb p s m args meth c own cc nL) {x : Int64} {y : Int64} (d : decode cc pc = .ok (.lrem, 1)) (hne : ¬ y = 0) (k : bW p l e R s m args below meth c cells slots Q nL Wd (pc + 1) lv (.long (x - x / y * y) :: rest)) : bW p l e R s m args below meth c cells slots Q nL Wd pc lv (.long y :: .long x :: rest) := fun H locs ls hW hl => lv_lrem C.1 C.2.1 d hne (k H locs ls hW hl)
theorem b_iand (C : Cb p s m args meth c own cc nL) {x : Int32} {y : Int32} (d : decode cc pc = .ok (.iand, 1))  (k : bW p l e R s m args below meth c cells slots Q nL Wd (pc + 1) lv (.int (x &&& y) :: rest)) : bW p l e R s m args below meth c cells slots Q nL Wd pc lv (.int y :: .int x :: rest) := fun H locs ls hW hl => lv_iand C.1 C.2.1 d  (k H locs ls hW hl)
theorem b_ior (C : Cb p s m args meth c own cc nL) {x : Int32} {y : Int32} (d : decode cc pc = .ok (.ior, 1))  (k : bW p l e R s m args below meth c cells slots Q nL Wd (pc + 1) lv (.int (x ||| y) :: rest)) : bW p l e R s m args below meth c cells slots Q nL Wd pc lv (.int y :: .int x :: rest) := fun H locs ls hW hl => lv_ior C.1 C.2.1 d  (k H locs ls hW hl)
theorem b_lxor (C : Cb p s m args meth c own cc nL) {x : Int64} {y : Int64} (d : decode cc pc = .ok (.lxor, 1))  (k : bW p l e R s m args below meth c cells slots Q nL Wd (pc + 1) lv (.long (x ^^^ y) :: rest)) : bW p l e R s m args below meth c cells slots Q nL Wd pc lv (.long y :: .long x :: rest) := fun H locs ls hW hl => lv_lxor C.1 C.2.1 d  (k H locs ls hW hl)
theorem b_lneg (C : Cb p s m args meth c own cc nL) {x : Int64} (d : decode cc pc = .ok (.lneg, 1))  (k : bW p l e R s m args below meth c cells slots Q nL Wd (pc + 1) lv (.long (-x) :: rest)) : bW p l e R s m args below meth c cells slots Q nL Wd pc lv (.long x :: rest) := fun H locs ls hW hl => lv_lneg C.1 C.2.1 d  (k H locs ls hW hl)
theorem b_ishl (C : Cb p s m args meth c own cc nL) {x : Int32} {y : Int32} (d : decode cc pc = .ok (.ishl, 1))  (k : bW p l e R s m args below meth c cells slots Q nL Wd (pc + 1) lv (.int (x <<< (y &&& 31)) :: rest)) : bW p l e R s m args below meth c cells slots Q nL Wd pc lv (.int y :: .int x :: rest) := fun H locs ls hW hl => lv_ishl C.1 C.2.1 d  (k H locs ls hW hl)
theorem b_ishr (C : Cb p s m args meth c own cc nL) {x : Int32} {y : Int32} (d : decode cc pc = .ok (.ishr, 1))  (k : bW p l e R s m args below meth c cells slots Q nL Wd (pc + 1) lv (.int (x >>> (y &&& 31)) :: rest)) : bW p l e R s m args below meth c cells slots Q nL Wd pc lv (.int y :: .int x :: rest) := fun H locs ls hW hl => lv_ishr C.1 C.2.1 d  (k H locs ls hW hl)
theorem b_iushr (C : Cb p s m args meth c own cc nL) {x : Int32} {y : Int32} (d : decode cc pc = .ok (.iushr, 1))  (k : bW p l e R s m args below meth c cells slots Q nL Wd (pc + 1) lv (.int ((x.toUInt32 >>> (y.toUInt32 &&& Int32.toUInt32 31)).toInt32) :: rest)) : bW p l e R s m args below meth c cells slots Q nL Wd pc lv (.int y :: .int x :: rest) := fun H locs ls hW hl => lv_iushr C.1 C.2.1 d rfl (k H locs ls hW hl)
theorem b_i2l (C : Cb p s m args meth c own cc nL) {x : Int32} (d : decode cc pc = .ok (.i2l, 1))  (k : bW p l e R s m args below meth c cells slots Q nL Wd (pc + 1) lv (.long (x.toInt64) :: rest)) : bW p l e R s m args below meth c cells slots Q nL Wd pc lv (.int x :: rest) := fun H locs ls hW hl => lv_i2l C.1 C.2.1 d rfl (k H locs ls hW hl)
theorem b_l2i (C : Cb p s m args meth c own cc nL) {x : Int64} (d : decode cc pc = .ok (.l2i, 1))  (k : bW p l e R s m args below meth c cells slots Q nL Wd (pc + 1) lv (.int (x.toInt32) :: rest)) : bW p l e R s m args below meth c cells slots Q nL Wd pc lv (.long x :: rest) := fun H locs ls hW hl => lv_l2i C.1 C.2.1 d rfl (k H locs ls hW hl)
theorem b_i2c (C : Cb p s m args meth c own cc nL) {x : Int32} (d : decode cc pc = .ok (.i2c, 1))  (k : bW p l e R s m args below meth c cells slots Q nL Wd (pc + 1) lv (.int ((x.toUInt32 % 65536).toInt32) :: rest)) : bW p l e R s m args below meth c cells slots Q nL Wd pc lv (.int x :: rest) := fun H locs ls hW hl => lv_i2c C.1 C.2.1 d rfl (k H locs ls hW hl)
theorem b_dup (C : Cb p s m args meth c own cc nL) {va : Value} (d : decode cc pc = .ok (.dup, 1)) (hva : va.category = 1) (k : bW p l e R s m args below meth c cells slots Q nL Wd (pc + 1) lv (va :: va :: rest)) : bW p l e R s m args below meth c cells slots Q nL Wd pc lv (va :: rest) := fun H locs ls hW hl => lv_dup C.1 C.2.1 d hva (k H locs ls hW hl)
theorem b_ineg (C : Cb p s m args meth c own cc nL) {x : Int32} (d : decode cc pc = .ok (.ineg, 1))  (k : bW p l e R s m args below meth c cells slots Q nL Wd (pc + 1) lv (.int (-x) :: rest)) : bW p l e R s m args below meth c cells slots Q nL Wd pc lv (.int x :: rest) := fun H locs ls hW hl => lv_ineg C.1 C.2.1 d  (k H locs ls hW hl)
theorem b_pop (C : Cb p s m args meth c own cc nL) {va : Value} (d : decode cc pc = .ok (.pop, 1)) (hva : va.category = 1) (k : bW p l e R s m args below meth c cells slots Q nL Wd (pc + 1) lv rest) : bW p l e R s m args below meth c cells slots Q nL Wd pc lv (va :: rest) := fun H locs ls hW hl => lv_pop C.1 C.2.1 d hva (k H locs ls hW hl)
theorem b_goto (C : Cb p s m args meth c own cc nL) {off : Int} {tgt : Nat} (d : decode cc pc = .ok (.goto off, 3)) (ht : (pc : Int) + off = (tgt : Int)) (k : bW p l e R s m args below meth c cells slots Q nL Wd tgt lv rest) : bW p l e R s m args below meth c cells slots Q nL Wd pc lv rest := fun H locs ls hW hl => lv_goto C.1 C.2.1 d ht (k H locs ls hW hl)
theorem b_if_eq (C : Cb p s m args meth c own cc nL) {x : Int32} {off : Int} {tgt : Nat} (d : decode cc pc = .ok (.ifCond .eq off, 3)) (ht : (pc : Int) + off = (tgt : Int)) (kt : x = 0 → bW p l e R s m args below meth c cells slots Q nL Wd tgt lv rest) (kf : ¬ x = 0 → bW p l e R s m args below meth c cells slots Q nL Wd (pc + 3) lv rest) : bW p l e R s m args below meth c cells slots Q nL Wd pc lv (.int x :: rest) := fun H locs ls hW hl => lv_if_eq C.1 C.2.1 d ht (fun h => kt h H locs ls hW hl) (fun h => kf h H locs ls hW hl)
theorem b_icmp_eq (C : Cb p s m args meth c own cc nL) {x y : Int32} {off : Int} {tgt : Nat} (d : decode cc pc = .ok (.if_icmp .eq off, 3)) (ht : (pc : Int) + off = (tgt : Int)) (kt : x = y → bW p l e R s m args below meth c cells slots Q nL Wd tgt lv rest) (kf : ¬ x = y → bW p l e R s m args below meth c cells slots Q nL Wd (pc + 3) lv rest) : bW p l e R s m args below meth c cells slots Q nL Wd pc lv (.int y :: .int x :: rest) := fun H locs ls hW hl => lv_icmp_eq C.1 C.2.1 d ht (fun h => kt h H locs ls hW hl) (fun h => kf h H locs ls hW hl)
theorem b_lc_eq (C : Cb p s m args meth c own cc nL) {x y : Int64} {off : Int} {tgt : Nat} (d : decode cc pc = .ok (.lcmp, 1)) (d2 : decode cc (pc + 1) = .ok (.ifCond .eq off, 3)) (ht : ((pc + 1 : Nat) : Int) + off = (tgt : Int)) (kt : x = y → bW p l e R s m args below meth c cells slots Q nL Wd tgt lv rest) (kf : ¬ x = y → bW p l e R s m args below meth c cells slots Q nL Wd (pc + 4) lv rest) : bW p l e R s m args below meth c cells slots Q nL Wd pc lv (.long y :: .long x :: rest) := fun H locs ls hW hl => W.lcmp C.1 C.2.1 d (lv_if_eq C.1 C.2.1 d2 ht (fun h => kt (lgc_eq.mp h) H locs ls hW hl) (fun h => kf (lgn_eq.mp h) H locs ls hW hl))
theorem b_if_ne (C : Cb p s m args meth c own cc nL) {x : Int32} {off : Int} {tgt : Nat} (d : decode cc pc = .ok (.ifCond .ne off, 3)) (ht : (pc : Int) + off = (tgt : Int)) (kt : ¬ x = 0 → bW p l e R s m args below meth c cells slots Q nL Wd tgt lv rest) (kf : x = 0 → bW p l e R s m args below meth c cells slots Q nL Wd (pc + 3) lv rest) : bW p l e R s m args below meth c cells slots Q nL Wd pc lv (.int x :: rest) := fun H locs ls hW hl => lv_if_ne C.1 C.2.1 d ht (fun h => kt h H locs ls hW hl) (fun h => kf h H locs ls hW hl)
theorem b_icmp_ne (C : Cb p s m args meth c own cc nL) {x y : Int32} {off : Int} {tgt : Nat} (d : decode cc pc = .ok (.if_icmp .ne off, 3)) (ht : (pc : Int) + off = (tgt : Int)) (kt : ¬ x = y → bW p l e R s m args below meth c cells slots Q nL Wd tgt lv rest) (kf : x = y → bW p l e R s m args below meth c cells slots Q nL Wd (pc + 3) lv rest) : bW p l e R s m args below meth c cells slots Q nL Wd pc lv (.int y :: .int x :: rest) := fun H locs ls hW hl => lv_icmp_ne C.1 C.2.1 d ht (fun h => kt h H locs ls hW hl) (fun h => kf h H locs ls hW hl)
theorem b_lc_ne (C : Cb p s m args meth c own cc nL) {x y : Int64} {off : Int} {tgt : Nat} (d : decode cc pc = .ok (.lcmp, 1)) (d2 : decode cc (pc + 1) = .ok (.ifCond .ne off, 3)) (ht : ((pc + 1 : Nat) : Int) + off = (tgt : Int)) (kt : ¬ x = y → bW p l e R s m args below meth c cells slots Q nL Wd tgt lv rest) (kf : x = y → bW p l e R s m args below meth c cells slots Q nL Wd (pc + 4) lv rest) : bW p l e R s m args below meth c cells slots Q nL Wd pc lv (.long y :: .long x :: rest) := fun H locs ls hW hl => W.lcmp C.1 C.2.1 d (lv_if_ne C.1 C.2.1 d2 ht (fun h => kt (lgc_ne.mp h) H locs ls hW hl) (fun h => kf (lgn_ne.mp h) H locs ls hW hl))
theorem b_if_lt (C : Cb p s m args meth c own cc nL) {x : Int32} {off : Int} {tgt : Nat} (d : decode cc pc = .ok (.ifCond .lt off, 3)) (ht : (pc : Int) + off = (tgt : Int)) (kt : x < 0 → bW p l e R s m args below meth c cells slots Q nL Wd tgt lv rest) (kf : ¬ x < 0 → bW p l e R s m args below meth c cells slots Q nL Wd (pc + 3) lv rest) : bW p l e R s m args below meth c cells slots Q nL Wd pc lv (.int x :: rest) := fun H locs ls hW hl => lv_if_lt C.1 C.2.1 d ht (fun h => kt h H locs ls hW hl) (fun h => kf h H locs ls hW hl)
theorem b_icmp_lt (C : Cb p s m args meth c own cc nL) {x y : Int32} {off : Int} {tgt : Nat} (d : decode cc pc = .ok (.if_icmp .lt off, 3)) (ht : (pc : Int) + off = (tgt : Int)) (kt : x < y → bW p l e R s m args below meth c cells slots Q nL Wd tgt lv rest) (kf : ¬ x < y → bW p l e R s m args below meth c cells slots Q nL Wd (pc + 3) lv rest) : bW p l e R s m args below meth c cells slots Q nL Wd pc lv (.int y :: .int x :: rest) := fun H locs ls hW hl => lv_icmp_lt C.1 C.2.1 d ht (fun h => kt h H locs ls hW hl) (fun h => kf h H locs ls hW hl)
theorem b_lc_lt (C : Cb p s m args meth c own cc nL) {x y : Int64} {off : Int} {tgt : Nat} (d : decode cc pc = .ok (.lcmp, 1)) (d2 : decode cc (pc + 1) = .ok (.ifCond .lt off, 3)) (ht : ((pc + 1 : Nat) : Int) + off = (tgt : Int)) (kt : x < y → bW p l e R s m args below meth c cells slots Q nL Wd tgt lv rest) (kf : ¬ x < y → bW p l e R s m args below meth c cells slots Q nL Wd (pc + 4) lv rest) : bW p l e R s m args below meth c cells slots Q nL Wd pc lv (.long y :: .long x :: rest) := fun H locs ls hW hl => W.lcmp C.1 C.2.1 d (lv_if_lt C.1 C.2.1 d2 ht (fun h => kt (lgc_lt.mp h) H locs ls hW hl) (fun h => kf (lgn_lt.mp h) H locs ls hW hl))
theorem b_if_ge (C : Cb p s m args meth c own cc nL) {x : Int32} {off : Int} {tgt : Nat} (d : decode cc pc = .ok (.ifCond .ge off, 3)) (ht : (pc : Int) + off = (tgt : Int)) (kt : 0 ≤ x → bW p l e R s m args below meth c cells slots Q nL Wd tgt lv rest) (kf : ¬ 0 ≤ x → bW p l e R s m args below meth c cells slots Q nL Wd (pc + 3) lv rest) : bW p l e R s m args below meth c cells slots Q nL Wd pc lv (.int x :: rest) := fun H locs ls hW hl => lv_if_ge C.1 C.2.1 d ht (fun h => kt h H locs ls hW hl) (fun h => kf h H locs ls hW hl)
theorem b_icmp_ge (C : Cb p s m args meth c own cc nL) {x y : Int32} {off : Int} {tgt : Nat} (d : decode cc pc = .ok (.if_icmp .ge off, 3)) (ht : (pc : Int) + off = (tgt : Int)) (kt : y ≤ x → bW p l e R s m args below meth c cells slots Q nL Wd tgt lv rest) (kf : ¬ y ≤ x → bW p l e R s m args below meth c cells slots Q nL Wd (pc + 3) lv rest) : bW p l e R s m args below meth c cells slots Q nL Wd pc lv (.int y :: .int x :: rest) := fun H locs ls hW hl => lv_icmp_ge C.1 C.2.1 d ht (fun h => kt h H locs ls hW hl) (fun h => kf h H locs ls hW hl)
theorem b_lc_ge (C : Cb p s m args meth c own cc nL) {x y : Int64} {off : Int} {tgt : Nat} (d : decode cc pc = .ok (.lcmp, 1)) (d2 : decode cc (pc + 1) = .ok (.ifCond .ge off, 3)) (ht : ((pc + 1 : Nat) : Int) + off = (tgt : Int)) (kt : y ≤ x → bW p l e R s m args below meth c cells slots Q nL Wd tgt lv rest) (kf : ¬ y ≤ x → bW p l e R s m args below meth c cells slots Q nL Wd (pc + 4) lv rest) : bW p l e R s m args below meth c cells slots Q nL Wd pc lv (.long y :: .long x :: rest) := fun H locs ls hW hl => W.lcmp C.1 C.2.1 d (lv_if_ge C.1 C.2.1 d2 ht (fun h => kt (lgc_ge.mp h) H locs ls hW hl) (fun h => kf (lgn_ge.mp h) H locs ls hW hl))
theorem b_if_gt (C : Cb p s m args meth c own cc nL) {x : Int32} {off : Int} {tgt : Nat} (d : decode cc pc = .ok (.ifCond .gt off, 3)) (ht : (pc : Int) + off = (tgt : Int)) (kt : 0 < x → bW p l e R s m args below meth c cells slots Q nL Wd tgt lv rest) (kf : ¬ 0 < x → bW p l e R s m args below meth c cells slots Q nL Wd (pc + 3) lv rest) : bW p l e R s m args below meth c cells slots Q nL Wd pc lv (.int x :: rest) := fun H locs ls hW hl => lv_if_gt C.1 C.2.1 d ht (fun h => kt h H locs ls hW hl) (fun h => kf h H locs ls hW hl)
theorem b_icmp_gt (C : Cb p s m args meth c own cc nL) {x y : Int32} {off : Int} {tgt : Nat} (d : decode cc pc = .ok (.if_icmp .gt off, 3)) (ht : (pc : Int) + off = (tgt : Int)) (kt : y < x → bW p l e R s m args below meth c cells slots Q nL Wd tgt lv rest) (kf : ¬ y < x → bW p l e R s m args below meth c cells slots Q nL Wd (pc + 3) lv rest) : bW p l e R s m args below meth c cells slots Q nL Wd pc lv (.int y :: .int x :: rest) := fun H locs ls hW hl => lv_icmp_gt C.1 C.2.1 d ht (fun h => kt h H locs ls hW hl) (fun h => kf h H locs ls hW hl)
theorem b_lc_gt (C : Cb p s m args meth c own cc nL) {x y : Int64} {off : Int} {tgt : Nat} (d : decode cc pc = .ok (.lcmp, 1)) (d2 : decode cc (pc + 1) = .ok (.ifCond .gt off, 3)) (ht : ((pc + 1 : Nat) : Int) + off = (tgt : Int)) (kt : y < x → bW p l e R s m args below meth c cells slots Q nL Wd tgt lv rest) (kf : ¬ y < x → bW p l e R s m args below meth c cells slots Q nL Wd (pc + 4) lv rest) : bW p l e R s m args below meth c cells slots Q nL Wd pc lv (.long y :: .long x :: rest) := fun H locs ls hW hl => W.lcmp C.1 C.2.1 d (lv_if_gt C.1 C.2.1 d2 ht (fun h => kt (lgc_gt.mp h) H locs ls hW hl) (fun h => kf (lgn_gt.mp h) H locs ls hW hl))
theorem b_if_le (C : Cb p s m args meth c own cc nL) {x : Int32} {off : Int} {tgt : Nat} (d : decode cc pc = .ok (.ifCond .le off, 3)) (ht : (pc : Int) + off = (tgt : Int)) (kt : x ≤ 0 → bW p l e R s m args below meth c cells slots Q nL Wd tgt lv rest) (kf : ¬ x ≤ 0 → bW p l e R s m args below meth c cells slots Q nL Wd (pc + 3) lv rest) : bW p l e R s m args below meth c cells slots Q nL Wd pc lv (.int x :: rest) := fun H locs ls hW hl => lv_if_le C.1 C.2.1 d ht (fun h => kt h H locs ls hW hl) (fun h => kf h H locs ls hW hl)
theorem b_icmp_le (C : Cb p s m args meth c own cc nL) {x y : Int32} {off : Int} {tgt : Nat} (d : decode cc pc = .ok (.if_icmp .le off, 3)) (ht : (pc : Int) + off = (tgt : Int)) (kt : x ≤ y → bW p l e R s m args below meth c cells slots Q nL Wd tgt lv rest) (kf : ¬ x ≤ y → bW p l e R s m args below meth c cells slots Q nL Wd (pc + 3) lv rest) : bW p l e R s m args below meth c cells slots Q nL Wd pc lv (.int y :: .int x :: rest) := fun H locs ls hW hl => lv_icmp_le C.1 C.2.1 d ht (fun h => kt h H locs ls hW hl) (fun h => kf h H locs ls hW hl)
theorem b_lc_le (C : Cb p s m args meth c own cc nL) {x y : Int64} {off : Int} {tgt : Nat} (d : decode cc pc = .ok (.lcmp, 1)) (d2 : decode cc (pc + 1) = .ok (.ifCond .le off, 3)) (ht : ((pc + 1 : Nat) : Int) + off = (tgt : Int)) (kt : x ≤ y → bW p l e R s m args below meth c cells slots Q nL Wd tgt lv rest) (kf : ¬ x ≤ y → bW p l e R s m args below meth c cells slots Q nL Wd (pc + 4) lv rest) : bW p l e R s m args below meth c cells slots Q nL Wd pc lv (.long y :: .long x :: rest) := fun H locs ls hW hl => W.lcmp C.1 C.2.1 d (lv_if_le C.1 C.2.1 d2 ht (fun h => kt (lgc_le.mp h) H locs ls hW hl) (fun h => kf (lgn_le.mp h) H locs ls hW hl))
end
