/-! the law's end -/
/-- what the law's end asks: 1 on the stack -/
def lw_end (l : Launch) (p : Program) (e : Env) (s : State) (m : MethodId) (below : List Frame) (meth : Method) (c : Code) (b : Nat) : Prop :=
  ∀ (pc : Nat) (H : Heap) (ls : Array Slot), decode cL_law pc = .ok (.ireturn, 1) → W p l e room_1 s m #[Value.ref b] below meth c H [] 600000 7302250 (lw_Z below #[Value.ref b] s) (F0 m pc ls [.int 1])
theorem b_lend {l : Launch} {p : Program} {e : Env} {s : State} {m : MethodId} {below : List Frame} {meth : Method} {c : Code} {b : Nat} {D : va_G} {w : St → va_W} {σ : St} {pc : Nat} {lv : List (Nat × Value)} {ce sl : Nat} {x : Int32} (hend : lw_end l p e s m below meth c b) (hc : ce ≤ 600000) (hs : sl ≤ 7302250) (d : decode cL_law pc = .ok (.ireturn, 1)) (hrf : x = 1) : bW p l e room_1 s m #[Value.ref b] below meth c ce sl (lw_Z below #[Value.ref b] s) 18 (wd D (fun q : Nat => s.heap.size ≤ q) w s σ) pc lv [.int x] := by
  subst hrf
  intro H locs ls hW hl
  exact W.widen hc hs (va_forget (fun q hq => hW.2.2.2 q hq) (hend pc H ls d))
