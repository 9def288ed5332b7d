/-! the law: both worlds side by side -/
/-- one world at work, the other's cells at rest -/
def wl (D : va_G) (A : Nat → Prop) (s : State) (w : St → va_W) (σ : St) (wr : va_W) : Heap → List Loc → Prop := fun H locs => wd D A w s σ H locs ∧ va_P D cls wr H
/-- the script, and what is not touched -/
def Sc (s : State) (A : Nat → Prop) (b L : Nat) (xs : Nat → Int32) : Prop := va_X b L xs s s.heap ∧ b < s.heap.size ∧ ¬ A b ∧ L ≤ 2560
section
variable {p : Program} {l : Launch} {e : Env} {R : Room} {s : State} {m : MethodId} {args : Array Value} {below : List Frame} {meth : Method} {c : Code} {cells slots : Nat} {Q : State → Prop}
variable {D : va_G} {A : Nat → Prop} {w : St → va_W} {tys : TyL} {own : String} {cc : ByteArray} {nL : Nat} {Wd : Heap → List Loc → Prop} {σ : St} {pc : Nat} {lv : List (Nat × Value)} {rest : List Value} {wr : va_W}
theorem b_callL (C : Cb p s m args meth c own cc nL) (hw : sameW w) (X : Cx s D A w tys) (hdj : ∀ (i j : Nat) (p q : Nat × va_E), (w st0)[i]? = some p → wr[j]? = some q → p.1 ≠ q.1) {y : MethodName} {bytes : ByteArray} {maxL : Nat} {ret : Option FieldType} {rm : Room} {As : List Value} {b : Addr} {v : Option Value} {σ' : St} {index n : Nat} {stk : List Value}
    (d : decode cc pc = .ok (.invokevirtual index, 3)) (hM : Cw l y bytes maxL ret rm (.ref b :: As) w tys σ v σ') (hmf : MF y bytes maxL ret n) (hmi : MI y) (hlk : Cond.methodLink own index y ∈ TB)
    (q0 : Nat) {ci : Nat} {fs : List Value} {q : vw_C} (he : (w σ)[q0]? = some (b, .inr (ci, fs))) (hc : cls[ci]? = some q) (hcn : q.1 = y.cls)
    (hn : As.length = n) (h0 : rm.cells = 0 ∧ rm.slots = 0) (hR : rm.frames + 1 ≤ R.frames ∧ 8 + (maxL + 11) + rm.locals ≤ R.locals) (hcs : cells ≤ R.cells ∧ slots ≤ R.slots) (hst : stk = As.reverse ++ .ref b :: rest) (hcat : (rest.map fun v => v.category).sum ≤ 8)
    (k : bW p l e R s m args below meth c cells slots Q nL (wl D A s w σ' wr) (pc + 3) lv (v.toList ++ rest)) : bW p l e R s m args below meth c cells slots Q nL (wl D A s w σ wr) pc lv stk := by
  intro H locs ls hW2 hl
  obtain ⟨hW, hPr⟩ := hW2
  subst hst
  have hA : ∀ q, aA w H.size q → A q := fun q hq => by
    rcases hq with ⟨k, e, h⟩ | h
    · exact (X.2.1 _).2 k (q, e) h
    · exact X.2.2 q (Nat.le_trans hW.2.1 h)
  have hr := va_runV (l := l) (e := e) (R := R) (args := args) (below := below) (meth := meth) (H := H) (locs := locs) (cells := cells) (slots := slots) (g := F0 m pc ls (As.reverse ++ .ref b :: rest)) (Ts := TB) (As := As) (rest := rest) ⟨C.1, C.2.1, C.2.2.1, C.2.2.2.1, C.2.2.2.2.1⟩ (hM D H.size) (C := y.cls) ⟨cb_of C hmf hlk h0 hR, C.2.2.2.2.1 _ hmi.1, C.2.2.2.2.1 _ hmi.2⟩ ⟨Pw.blind, (by
    have h := va_recv X.1.1 hW.1 hc he
    rw [hcn] at h
    exact h), fun U hU hWm => ⟨rfl, by rw [hU], by rw [hU]; exact hW.1, X.1.moved hWm, fun σ => (X.2.1 σ).weaken (fun _ _ _ _ => trivial)⟩⟩ rfl hn hl.1 rfl (lv_room hcat) d hcs
  intro T hT XS
  obtain ⟨v', st₀, t, T', Ls, h0', X', hL, e1, e2, ⟨⟨hv, hp⟩, hz, hk⟩, st⟩ := hr T hT XS
  cases hv
  rw [h0'] at hz hk
  have hS := hW.2
  obtain ⟨t2, a1, b1⟩ := k T'.heap (locs ++ Ls) ls ⟨⟨by rw [e1]; exact hp, Nat.le_trans hS.1 (by rw [e1]; exact hz), fun q h1 h2 => by rw [e1, hk q (Nat.lt_of_lt_of_le h1 hS.1) (fun z => h2 (hA q z))]; exact hS.2.1 q h1 h2, fun q hq => by
      rcases List.mem_append.mp hq with h | h
      · exact hS.2.2 q h
      · exact hA _ (hL q h)⟩, hPr.kept (fun k q hq => by
      rw [e1]
      refine hk q.1 ((hPr k q hq).lt) (fun z => ?_)
      rcases z with ⟨i, e', hi⟩ | z
      · exact hdj i k (q.1, e') q hi hq rfl
      · exact absurd ((hPr k q hq).lt) (Nat.not_lt.mpr z))⟩ hl T' rfl X'
  exact ⟨t2, st t2 a1, b1⟩
/-- the worlds change places -/
theorem b_swap {w2 : St → va_W} {τ : St} (k : bW p l e R s m args below meth c cells slots Q nL (wl D A s w2 τ (w σ)) pc lv rest) : bW p l e R s m args below meth c cells slots Q nL (wl D A s w σ (w2 τ)) pc lv rest := fun H locs ls hW hl => k H locs ls ⟨⟨hW.2, hW.1.2⟩, hW.1.1⟩ hl
/-- an int of the script -/
theorem b_sld (C : Cb p s m args meth c own cc nL) {b L : Nat} {xs : Nat → Int32} (S : Sc s A b L xs) {j : Nat} (hj : j < L) (d : decode cc pc = .ok (.iaload, 1)) (k : bW p l e R s m args below meth c cells slots Q nL (wl D A s w σ wr) (pc + 1) lv (.int (xs j) :: rest)) : bW p l e R s m args below meth c cells slots Q nL (wl D A s w σ wr) pc lv (.int (nI j) :: .ref b :: rest) := by
  intro H locs ls hW hl
  have hL := S.2.2.2
  refine va_sld C.1 C.2.1 S.1 S.2.1 S.2.2.1 hW.1.2 (vp_in_nI hj (by omega)) d ?_
  rw [nI_clamp (by omega)]
  exact k H locs ls hW hl
theorem b_slen (C : Cb p s m args meth c own cc nL) {b L : Nat} {xs : Nat → Int32} (S : Sc s A b L xs) (d : decode cc pc = .ok (.arraylength, 1)) (k : bW p l e R s m args below meth c cells slots Q nL (wl D A s w σ wr) (pc + 1) lv (.int (nI L) :: rest)) : bW p l e R s m args below meth c cells slots Q nL (wl D A s w σ wr) pc lv (.ref b :: rest) := fun H locs ls hW hl =>
  va_slen C.1 C.2.1 S.1 S.2.1 S.2.2.1 hW.1.2 d (k H locs ls hW hl)
/-- the locals of the law -/
def lvL (b x1 x2 i : Nat) : List (Nat × Value) := [(0, .ref b), (1, .ref x1), (2, .ref x2), (3, .int (nI i))]
/-- an argument out of the script -/
theorem b_arg (C : Cb p s m args meth c own cc nL) {b L x1 x2 i : Nat} {xs : Nat → Int32} (S : Sc s A b L xs) (j : Nat) {n : Int} (hj : i + j < L) (d0 : decode cc pc = .ok (.aload_n 0, 1)) (d1 : decode cc (pc + 1) = .ok (.iload_n 3, 1)) (d2 : decode cc (pc + 2) = .ok (.iconst n, 1)) (hn : Int32.ofInt n = nI j) (d3 : decode cc (pc + 3) = .ok (.iadd, 1)) (d4 : decode cc (pc + 4) = .ok (.iaload, 1)) (k : bW p l e R s m args below meth c cells slots Q nL (wl D A s w σ wr) (pc + 5) (lvL b x1 x2 i) (.int (xs (i + j)) :: rest)) : bW p l e R s m args below meth c cells slots Q nL (wl D A s w σ wr) pc (lvL b x1 x2 i) rest := by
  refine b_aload_n C 0 d0 rfl rfl ?_
  refine b_iload_n C 3 d1 rfl rfl ?_
  refine b_iconst (v := nI j) C d2 hn ?_
  refine b_iadd C d3 ?_
  rw [nI_add]
  exact b_sld C S hj d4 k
/-- a truth value -/
def bz (x : Int32) : Int32 := if x = 0 then 0 else 1
theorem b_tern (C : Cb p s m args meth c own cc nL) {x : Int32} (d0 : decode cc pc = .ok (.ifCond .eq 7, 3)) (d1 : decode cc (pc + 3) = .ok (.iconst 1, 1)) (d2 : decode cc (pc + 4) = .ok (.goto 4, 3)) (d3 : decode cc (pc + 7) = .ok (.iconst 0, 1)) (k : bW p l e R s m args below meth c cells slots Q nL Wd (pc + 8) lv (.int (bz x) :: rest)) : bW p l e R s m args below meth c cells slots Q nL Wd pc lv (.int x :: rest) := by
  refine b_if_eq (tgt := pc + 7) C d0 (by omega) (fun h => ?_) (fun h => ?_)
  · refine b_iconst (v := (0 : Int32)) C d3 (by decide) ?_
    unfold bz at k
    rw [if_pos h] at k
    exact k
  · refine b_iconst (v := (1 : Int32)) C d1 (by decide) ?_
    refine b_goto (tgt := pc + 8) C d2 (by omega) ?_
    unfold bz at k
    rw [if_neg h] at k
    exact k
/-- what stands fixed through the law's loop -/
def LC (s : State) (D : va_G) (A : Nat → Prop) (ad : Nat → Nat) (ca : Nat → ClassId) (ad' : Nat → Nat) (ca' : Nat → ClassId) (b L : Nat) (xs : Nat → Int32) : Prop :=
  Cx s D A (wX ad ca) (tyX ca) ∧ Cx s D A (wM ad' ca') (tyM ca') ∧ (∀ (τ : St) (i j : Nat) (p q : Nat × va_E), (wX ad ca st0)[i]? = some p → (wM ad' ca' τ)[j]? = some q → p.1 ≠ q.1) ∧ (∀ (σ : St) (i j : Nat) (p q : Nat × va_E), (wM ad' ca' st0)[i]? = some p → (wX ad ca σ)[j]? = some q → p.1 ≠ q.1) ∧ Sc s A b L xs
end
