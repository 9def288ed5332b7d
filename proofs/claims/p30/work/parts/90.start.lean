/-- the pure law answers true -/
theorem law_true (L : Nat) (xs : Nat → Int32) (hL : L ≤ 260) (σ : St) (h : fX2_startAnew 2000 st0 4 1 720720 = some σ) : fL_law 2000 L xs σ = some 1 := L_law (Nat.le_refl _) hL (st0_iv h)
theorem st0_start : ∃ σ, fX2_startAnew 2000 st0 4 1 720720 = some σ := start_ex (Nat.le_refl _) 4 1 720720
/-- YOUR PART: from the entry, for every script of at most 260 ints, the law comes to its end with true ('hflags': the launch's flags, for a law that throws: no stack traces) -/
theorem whole_start {p : Program} {e : Env} {s : State} {m : MethodId} {below : List Frame} {meth : Method} {c : Code} (l : Launch) (hflags : l.flags = flags0) {b L : Nat} {xs : Nat → Int32} (hL : L ≤ 260) (C0 : lw_At p s m meth c b L xs) : W p l e room_1 s m #[Value.ref b] below meth c s.heap [] 0 0 (lw_Z below #[Value.ref b] s) (entryFrame m ([Value.ref b] : List Value).toArray 18) := by
  obtain ⟨hx, hb, hr, hml, hown, hts, hXs, hbl, hlocks, hgv⟩ := id C0
  have C : Cb p s m #[Value.ref b] meth c RL cL_law 18 := ⟨hx, hb, hml, hown, TB_of hts, hlocks⟩
  have hT := C.2.2.2.2.1
  have hA : ∀ q : Nat, s.heap.size ≤ q → (fun q : Nat => s.heap.size ≤ q) q := fun _ h => h
  have S : Sc s (fun q : Nat => s.heap.size ≤ q) b L xs := ⟨hXs, hbl, Nat.not_le.mpr hbl, hL⟩
  obtain ⟨c0, iS0, hKn0⟩ := u_known (C := RX0) (T := TX0) (N := 3) (n := 3) hT inX0 (hT _ kn_X0)
  obtain ⟨c1, iS1, hKn1⟩ := u_known (C := RX1) (T := TX1) (N := 6) (n := 6) hT inX1 (hT _ kn_X1)
  obtain ⟨c2, iS2, hKn2⟩ := u_known (C := RX2) (T := TX2) (N := 12) (n := 12) hT inX2 (hT _ kn_X2)
  obtain ⟨D, hKc⟩ : ∃ D : va_G, ∀ (k : Nat) (q : vw_C), cls[k]? = some q → u_Kn s q.1 q.2.1 q.2.2 (D.1 k) (D.2 k) := by
    refine ⟨(fun k => if k = 0 then c0 else if k = 1 then c1 else c2, fun k => if k = 0 then iS0 else if k = 1 then iS1 else iS2), ?_⟩
    intro k q hq
    match k, hq with
    | 0, hq => cases hq; exact hKn0
    | 1, hq => cases hq; exact hKn1
    | 2, hq => cases hq; exact hKn2
    | k + 3, hq => simp [cls] at hq
  have hK : va_K D cls [] s := ⟨hKc, fun k q h => by simp at h⟩
  have hX : Kx D [] s := ⟨hK, va_tabs (u := s) (A := #[Value.ref b]) rfl rfl (hts nw1 (List.mem_of_getElem? (i := 47) (by decide +kernel))), va_tabs (u := s) (A := #[Value.ref b]) rfl rfl (hts nw2 (List.mem_of_getElem? (i := 365) (by decide +kernel))), va_tabs (u := s) (A := #[Value.ref b]) rfl rfl (hts nw3 (List.mem_of_getElem? (i := 366) (by decide +kernel)))⟩
  have hP : va_P D cls [] s.heap := fun k q h => by simp at h
  have hD : va_D (fun q : Nat => s.heap.size ≤ q) [] := ⟨fun i j p q h => by simp at h, fun k q h => by simp at h⟩
  obtain ⟨σf, hst⟩ := st0_start
  rw [lg_entry_eq]
  have hend : lw_end l p e s m below meth c b := fun pc H ls d => lw_ret hx hb hr hlocks d
  have key : bW p l e room_1 s m #[Value.ref b] below meth c 0 0 (lw_Z below #[Value.ref b] s) 18 (wv D (fun q : Nat => s.heap.size ≤ q) s []) 0 (lv_args 0 [.ref b]) [] := by
    refine b_sub (lv' := [(0, .ref b)]) [0] rfl ?_
    refine b_new (N := 12) (ci := 2) (fs := [.null, .null, .null, .null, .null, .null, .null, .int 0, .int 0, .int 0, .int 0, .int 0]) C hK hA inX2 tyX2 tyX2_ok kk_L_19 kn_X2 ki_X2 rfl (fun j hj => by rcases (show j = 0 ∨ j = 1 ∨ j = 2 ∨ j = 3 ∨ j = 4 ∨ j = 5 ∨ j = 6 ∨ j = 7 ∨ j = 8 ∨ j = 9 ∨ j = 10 ∨ j = 11 by omega) with rfl | rfl | rfl | rfl | rfl | rfl | rfl | rfl | rfl | rfl | rfl | rfl <;> rfl) (Nat.le_of_ble_eq_true rfl) (Nat.le_of_ble_eq_true rfl) dL_law_0 (fun q0 => ?_)
    refine b_dup C dL_law_3 rfl ?_
    refine b_callI (wr := []) (rest := [.ref q0]) (As := []) C hK hX hA [0] [] rfl rfl rfl rfl (by decide) dL_law_4 (ciX2 (h0 := q0) hst) mf_X2_init mi_X2_init rfl kl_L_120 rfl ⟨rfl, rfl⟩ ⟨Nat.le_of_ble_eq_true rfl, Nat.le_of_ble_eq_true rfl⟩ ⟨Nat.le_of_ble_eq_true rfl, Nat.le_of_ble_eq_true rfl⟩ rfl (Nat.le_of_ble_eq_true rfl) (fun u hu hK1 => ?_)
    obtain ⟨ad, ca, rfl, rfl⟩ := hu
    refine b_astore_n (lv' := [(1, .ref (ad 0)), (0, .ref b)]) C dL_law_7 rfl (by decide) rfl ?_
    refine b_world (sameX ad ca) (σ := σf) rfl hK1 hX hA (fun X => ?_)
    refine b_widen (k := 590000) (n := 7200000) (Nat.le_of_ble_eq_true rfl) (Nat.le_of_ble_eq_true rfl) ?_
    exact wL_law (N := 2000) (Nat.le_of_ble_eq_true rfl) C X S hend rfl (Nat.le_refl _) (Nat.le_refl _) (law_true L xs hL σf hst)
  exact key s.heap [] _ ⟨hP, hD, va_S.rf⟩ (lv_entry [.ref b] (n := 18) (Nat.le_of_ble_eq_true rfl))
