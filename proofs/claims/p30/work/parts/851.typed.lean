/-! an interval is read -/
/-- a number in units, as it is written -/
def NS (g : Nat) (ng : Bool) (da : List Nat) (db : Option (List Nat)) (v : Int64) : Prop :=
  dgs da ∧ 1 ≤ da.length ∧ da.length ≤ 6 ∧ (∀ d, db = some d → dgs d ∧ 1 ≤ d.length ∧ d.length ≤ 6) ∧ 0 < dn db ∧ vl 0 da ≤ 1000 * dn db ∧ vl 0 da * g % dn db = 0 ∧ v = sg ng (lN (vl 0 da * g / dn db))
theorem NS.num {σ σ' : St} {N g : Nat} {pre post da : List Nat} {db : Option (List Nat)} {ng : Bool} {v : Int64} (h : NS g ng da db v) (hN : 2000 ≤ N) (hg : g ≤ 720720) (B : Tx σ (pre ++ (nt ng da db ++ post))) (hnd : ¬ Dg (post.headD 0)) (hh : post.headD 0 < 1000) (h47 : post.headD 0 ≠ 47) (hk : kX σ σ') (hp : gI σ' 6 = nI pre.length) :
    ∃ σ2 : St, fX1_parseNumber N σ' (nI g) = some (-1, σ2) ∧ kX σ σ2 ∧ gJ σ2 0 = v ∧ gJ σ2 1 = gJ σ' 1 ∧ gJ σ2 2 = gJ σ' 2 ∧ gI σ2 6 = nI (pre.length + (nt ng da db).length) := by
  obtain ⟨a1, a2, a3, a4, a5, a6, a7, rfl⟩ := h
  obtain ⟨σ2, e1, e2, e3, e4⟩ := X_number hN hg B a1 a2 a3 a4 hnd hh (fun _ => h47) hk hp a5 a6 a7
  refine ⟨σ2, e1, e2, ?_, ?_, ?_, e4⟩
  · unfold gJ; rw [e3]; rfl
  · unfold gJ; rw [e3]; rfl
  · unfold gJ; rw [e3]; rfl
theorem X_parse1 {σ : St} {N g : Nat} {post da : List Nat} {db : Option (List Nat)} {ng : Bool} {v : Int64} (hN : 2000 ≤ N) (hg : g ≤ 720720) (h : NS g ng da db v) (B : Tx σ (nt ng da db ++ post)) (hnd : ¬ Dg (post.headD 0)) (hh : post.headD 0 < 1000) (h47 : post.headD 0 ≠ 47) (h46 : post.headD 0 ≠ 46) :
    ∃ σ2 : St, fX1_parse N σ (nI g) = some (if post = [] then -1 else nI (nt ng da db).length, σ2) ∧ kX σ σ2 ∧ gJ σ2 1 = v ∧ gJ σ2 2 = v := by
  have hl := B.2.1
  rw [List.length_append] at hl
  obtain ⟨σ2, e1, e2, e3, -, -, e4⟩ := h.num (pre := []) (σ' := sI σ 6 0) hN hg B hnd hh h47 (kX.rf.i _) rfl
  have e4 : gI σ2 6 = nI (nt ng da db).length := by rw [e4]; simp
  have k3 : kX σ (sJ (sJ σ2 1 v) 2 v) := (e2.j 1 v).j 2 v
  have h6 : gI (sJ (sJ σ2 1 v) 2 v) 6 = nI (nt ng da db).length := e4
  have h5 : gI (sJ (sJ σ2 1 v) 2 v) 5 = nI ((nt ng da db).length + post.length) := by
    rw [k3.1 5 (by decide), B.1, List.length_append]
  unfold fX1_parse
  rw [lt1_e, e1, bd2_e, if_pos rfl, lt1_e, lt1_e, e3, show gJ (sJ σ2 1 v) 0 = v from e3, h6, h5]
  by_cases hp : post = []
  · subst hp
    rw [List.length_nil, Nat.add_zero, if_pos rfl, if_pos rfl]
    exact ⟨_, rfl, k3, rfl, rfl⟩
  · have hpl : 0 < post.length := List.length_pos_iff.mpr hp
    have hs := X_skip (c := 46) B k3 h6 (by omega) hh
    rw [if_neg h46] at hs
    rw [if_neg (nI_ne (by omega) (by omega) (by omega)), show fX1_skip (sJ (sJ σ2 1 v) 2 v) (46 : Int32) = _ from hs, bd2_e, if_pos rfl, h6, if_neg hp]
    exact ⟨_, rfl, k3, rfl, rfl⟩
theorem X_parse2 {σ : St} {N g : Nat} {post da da' : List Nat} {db db' : Option (List Nat)} {ng ng' : Bool} {v v' : Int64} (hN : 2000 ≤ N) (hg : g ≤ 720720) (h : NS g ng da db v) (h' : NS g ng' da' db' v') (B : Tx σ (nt ng da db ++ (46 :: 46 :: (nt ng' da' db' ++ post)))) (hnd : ¬ Dg (post.headD 0)) (hh : post.headD 0 < 1000) (h47 : post.headD 0 ≠ 47) :
    ∃ σ2 : St, fX1_parse N σ (nI g) = some (if v ≤ v' then (if post = [] then -1 else nI ((nt ng da db).length + 2 + (nt ng' da' db').length)) else nI ((nt ng da db).length + 2), σ2) ∧ kX σ σ2 ∧ (v ≤ v' → gJ σ2 1 = v ∧ gJ σ2 2 = v') := by
  have hl := B.2.1
  have hll : (nt ng da db ++ (46 :: 46 :: (nt ng' da' db' ++ post))).length = (nt ng da db).length + 2 + (nt ng' da' db').length + post.length := by
    simp only [List.length_append, List.length_cons]; omega
  rw [hll] at hl
  obtain ⟨σ2, e1, e2, e3, -, -, e4⟩ := h.num (pre := []) (σ' := sI σ 6 0) hN hg B (fun z => by have : 48 ≤ 46 := z.1; omega) (by show 46 < 1000; omega) (by show 46 ≠ 47; omega) (kX.rf.i _) rfl
  have e4 : gI σ2 6 = nI (nt ng da db).length := by rw [e4]; simp
  have k3 : kX σ (sJ (sJ σ2 1 v) 2 v) := (e2.j 1 v).j 2 v
  have h6 : gI (sJ (sJ σ2 1 v) 2 v) 6 = nI (nt ng da db).length := e4
  have h5 : gI (sJ (sJ σ2 1 v) 2 v) 5 = nI ((nt ng da db).length + 2 + (nt ng' da' db').length + post.length) := by
    rw [k3.1 5 (by decide), B.1, hll]
  unfold fX1_parse
  rw [lt1_e, e1, bd2_e, if_pos rfl, lt1_e, lt1_e, e3, show gJ (sJ σ2 1 v) 0 = v from e3, h6, h5, if_neg (nI_ne (by omega) (by omega) (by omega))]
  have hs := X_skip (c := 46) B k3 h6 (by omega) (by show 46 < 1000; omega)
  have hs := hs.trans (if_pos rfl)
  rw [show fX1_skip (sJ (sJ σ2 1 v) 2 v) (46 : Int32) = _ from hs, bd2_e, if_neg z10]
  have B2 : Tx σ ((nt ng da db ++ [46]) ++ (46 :: (nt ng' da' db' ++ post))) := by
    have e : (nt ng da db ++ [46]) ++ (46 :: (nt ng' da' db' ++ post)) = nt ng da db ++ (46 :: 46 :: (nt ng' da' db' ++ post)) := by simp
    rw [e]; exact B
  have hl2 : (nt ng da db ++ [46]).length = (nt ng da db).length + 1 := by simp
  have hs2 := X_skip (σ' := sI (sJ (sJ σ2 1 v) 2 v) 6 (nI ((nt ng da db).length + 1))) (c := 46) B2 (k3.i _) (by rw [hl2]; rfl) (by omega) (by show 46 < 1000; omega)
  have hs2 := hs2.trans (if_pos rfl)
  rw [show fX1_skip (sI (sJ (sJ σ2 1 v) 2 v) 6 (nI ((nt ng da db).length + 1))) (46 : Int32) = _ from hs2, bd2_e, if_neg z10, lt1_e]
  have B3 : Tx σ ((nt ng da db ++ [46, 46]) ++ (nt ng' da' db' ++ post)) := by
    have e : (nt ng da db ++ [46, 46]) ++ (nt ng' da' db' ++ post) = nt ng da db ++ (46 :: 46 :: (nt ng' da' db' ++ post)) := by simp
    rw [e]; exact B
  have hl3 : (nt ng da db ++ [46, 46]).length = (nt ng da db).length + 2 := by simp
  have k4 : kX σ (sI (sI (sJ (sJ σ2 1 v) 2 v) 6 (nI ((nt ng da db).length + 1))) 6 (nI ((nt ng da db ++ [46]).length + 1))) := (k3.i _).i _
  obtain ⟨σ5, f1, f2, f3, f4, -, f5⟩ := h'.num hN hg B3 hnd hh h47 k4 (by rw [hl2, hl3]; rfl)
  have f4 : gJ σ5 1 = v := f4
  have e7 : gI (sI (sI (sJ (sJ σ2 1 v) 2 v) 6 (nI ((nt ng da db).length + 1))) 6 (nI ((nt ng da db ++ [46]).length + 1))) 6 = nI ((nt ng da db ++ [46]).length + 1) := rfl
  rw [e7, f1, bd2_e, if_pos rfl, f3, f4, hl2]
  by_cases hv : v ≤ v'
  · rw [if_pos hv, if_pos hv, lt1_e]
    have q6 : gI (sJ σ5 2 v') 6 = nI ((nt ng da db).length + 2 + (nt ng' da' db').length) := by
      show gI σ5 6 = _
      rw [f5, hl3]
    have q5 : gI (sJ σ5 2 v') 5 = nI ((nt ng da db).length + 2 + (nt ng' da' db').length + post.length) := by
      show gI σ5 5 = _
      rw [f2.1 5 (by decide), B.1, hll]
    rw [q6, q5]
    by_cases hp : post = []
    · subst hp
      rw [if_pos rfl, show (nt ng da db).length + 2 + (nt ng' da' db').length + ([] : List Nat).length = (nt ng da db).length + 2 + (nt ng' da' db').length from rfl, if_pos rfl]
      exact ⟨_, rfl, f2.j 2 _, fun _ => ⟨f4, rfl⟩⟩
    · have hpl : 0 < post.length := List.length_pos_iff.mpr hp
      rw [if_neg (nI_ne (by omega) (by omega) (by omega)), if_neg hp]
      exact ⟨_, rfl, f2.j 2 _, fun _ => ⟨f4, rfl⟩⟩
  · rw [if_neg hv, if_neg hv]
    exact ⟨_, rfl, f2, fun z => absurd z hv⟩
/-! what typing leaves as it is -/
def Tk (σ σ' : St) : Prop := (∀ j, j < 5 → gI σ' j = gI σ j) ∧ (∀ a, a ≠ 0 → gF σ' a = gF σ a) ∧ σ'.2.2.2 = σ.2.2.2
theorem Tk.rf {σ : St} : Tk σ σ := ⟨fun _ _ => rfl, fun _ _ => rfl, rfl⟩
theorem Tk.tr {a b c : St} (h : Tk a b) (k : Tk b c) : Tk a c := ⟨fun j hj => (k.1 j hj).trans (h.1 j hj), fun j hj => (k.2.1 j hj).trans (h.2.1 j hj), k.2.2.trans h.2.2⟩
theorem kX.tk {σ σ' : St} (h : kX σ σ') : Tk σ σ' := ⟨fun j hj => h.1 j (by omega), fun a _ => h.F a, by rw [h.2]⟩
theorem kX.tx {σ σ' : St} {l : List Nat} (h : kX σ σ') (B : Tx σ l) : Tx σ' l := by
  refine ⟨(h.1 5 (by decide)).trans B.1, B.2.1, ?_, ?_⟩
  · rw [h.F 0]; exact B.2.2.1
  · rw [h.F 0]; exact B.2.2.2
theorem Tk.valE {σ σ' : St} (h : Tk σ σ') (k p s : Nat) : val σ' k p s = val σ k p s := by
  unfold val gG; rw [h.2.2]
theorem Tk.cor {σ σ' : St} (h : Tk σ σ') (p : Nat) : cor σ' p = cor σ p := cor_F (h.2.1 2 (by decide)) p
theorem Iv.tk {σ σ' : St} {n t g rule len r : Nat} {l : List Nat} (I : Iv σ n t g rule len r) (h : Tk σ σ') (B : Tx σ' l) : Iv σ' n t g rule l.length r := by
  obtain ⟨a1, a2, a3, a4, a5, a6, a7, a8, a9, a10, a11, a12, a13, a14, a15, a16, a17, a18, a19, a20⟩ := I
  refine ⟨(h.1 0 (by omega)).trans a1, a2, a3, (h.1 1 (by omega)).trans a4, a5, (h.1 2 (by omega)).trans a6, a7, a8, (h.1 3 (by omega)).trans a9, a10, (h.1 4 (by omega)).trans a11, a12, B.1, B.2.1, B.2.2.1, ?_, ?_, ?_, ?_, ?_⟩
  · rw [h.2.1 2 (by decide)]; exact a16
  · rw [h.2.1 1 (by decide)]; exact a17
  · rw [h.2.1 1 (by decide)]; exact a18
  · intro p hp
    have e : ∀ a, gG σ' a = gG σ a := fun a => by unfold gG; rw [h.2.2]
    rw [e 0, e 1]; exact a19 p hp
  · intro k p s hk hp hs hc
    rw [h.cor] at hc
    rw [h.valE]
    exact a20 k p s hk hp hs hc
theorem Hu.tk {σ σ' : St} {n r : Nat} (H : Hu σ n r) (h : Tk σ σ') : Hu σ' n r := H.same h.cor (fun k p s _ _ _ _ => h.valE k p s)
theorem X_type {σ : St} {l : List Nat} {c : Nat} (B : Tx σ l) (hl : l.length < 40) (hc : c < 65536) : ∃ σ', fX2_type σ (nI c) = some (nI (l.length + 1), σ') ∧ Tx σ' (l ++ [c]) ∧ Tk σ σ' := by
  obtain ⟨b1, b2, b3, b4⟩ := B
  refine ⟨sI (sF σ 0 (upd (gF σ 0) l.length (nI c))) 5 (nI (l.length + 1)), ?_, ⟨?_, ?_, ?_, ?_⟩, ?_, ?_, rfl⟩
  · unfold fX2_type fX1_append fX1_size
    rw [b1, if_neg (nI_pos (by omega)), if_pos (cR_lt 40 hl (by omega)), if_neg (nI_in (by omega) (by omega)), nI_clamp (by omega), lt1_e, lt1_e, bd2_e, if_neg z10, bd2_e, nar_c hc, show gI (sF σ 0 (upd (gF σ 0) l.length (nI c))) 5 = nI l.length from b1, nI_1]
    rfl
  · rw [List.length_append]; rfl
  · rw [List.length_append]; show l.length + 1 ≤ 40; omega
  · intro j hj
    show vp_nar .char (upd (gF σ 0) l.length (nI c) j) = upd (gF σ 0) l.length (nI c) j
    by_cases e : j = l.length
    · subst e; rw [pk_us]; exact nar_c hc
    · rw [pk_un e]; exact b3 j hj
  · intro j hj
    show upd (gF σ 0) l.length (nI c) j = _
    rw [List.length_append] at hj
    have hj : j < l.length + 1 := hj
    by_cases e : j = l.length
    · subst e
      rw [pk_us, List.getElem?_append_right (Nat.le_refl _), Nat.sub_self]; rfl
    · rw [pk_un e, List.getElem?_append_left (by omega)]
      exact b4 j (by omega)
  · intro j hj
    rw [gI_sI, if_neg (by omega)]; rfl
  · intro a ha
    show gF (sF σ 0 (upd (gF σ 0) l.length (nI c))) a = gF σ a
    rw [gF_sF, if_neg ha]
theorem X_clear {σ : St} {n t g rule len r : Nat} (I : Iv σ n t g rule len r) : ∃ σ', fX2_clearText σ = some (nI len, σ') ∧ Tx σ' [] ∧ Tk σ σ' := by
  refine ⟨sI σ 5 0, ?_, ⟨rfl, by show 0 ≤ 40; omega, I.chr, fun j hj => absurd hj (Nat.not_lt_zero j)⟩, fun j hj => ?_, fun _ _ => rfl, rfl⟩
  · unfold fX2_clearText fX1_empty
    rw [lt1_e, lt1_e, bd2_e, I.xl]
  · rw [gI_sI, if_neg (by omega)]
/-! digits that the law types -/
theorem ch_lit {k : Nat} (h : k < 65536) : ((nI k).toUInt32 % 65536).toInt32 = nI k := by
  rw [pk_char, pk_tn (by omega), Nat.mod_eq_of_lt h]
theorem vl_app (c : Nat) : ∀ (ds : List Nat) (w : Nat), vl w (ds ++ [c]) = vl w ds * 10 + (c - 48)
  | [], w => rfl
  | x :: ds, w => vl_app c ds (w * 10 + (x - 48))
theorem p10_le : ∀ e, e ≤ 6 → 1 ≤ 10 ^ e ∧ 10 ^ e ≤ 1000000 := by decide
theorem dig_loop {l : List Nat} {v N : Nat} (hv : v < 1000000) {q : St → Int32 → Option (Int32 × St)} : ∀ (e : Nat) (ds : List Nat) (σ : St) (fx : Nat), Tx σ (l ++ ds) → dgs ds → ds.length + e + 1 ≤ 6 → l.length + 6 ≤ 40 → vl 0 ds = v / 10 ^ (e + 1) → e + 1 < fx →
    ∃ (σ' : St) (ds' : List Nat), 1 ≤ ds'.length ∧ ds'.length ≤ 6 ∧ dgs ds' ∧ vl 0 ds' = v ∧ Tx σ' (l ++ ds') ∧ Tk σ σ' ∧ fL_digits_8 N q fx σ (nI v) (nI ds.length) (if ds = [] then 0 else 1) (nI (10 ^ e)) = q σ' (nI ds'.length) := by
  intro e
  induction e with
  | zero =>
    intro ds σ fx B hds hlen hl hvl hfx
    obtain ⟨f, rfl⟩ : ∃ f, fx = f + 2 := ⟨fx - 2, by omega⟩
    have hd : v / 10 ^ 0 % 10 < 10 := Nat.mod_lt _ (by omega)
    have hp1 : (10 : Nat) ^ 0 = 1 := rfl
    obtain ⟨σ1, e1, B1, k1⟩ := X_type (c := 48 + v / 10 ^ 0 % 10) B (by rw [List.length_append]; omega) (by omega)
    have h34 : fL_digits_34 N (fL_digits_8 N q (f + 1)) σ (nI v) (nI ds.length) (nI (10 ^ 0)) 1 = q σ1 (nI (ds ++ [48 + v / 10 ^ 0 % 10]).length) := by
      unfold fL_digits_34
      rw [if_neg z10, if_neg (cR_ne 0 (by omega) (by omega) (by omega)), pk_div (by omega) (by omega) (by omega), show (10 : Int32) = nI 10 from rfl, pk_rem (Nat.lt_of_le_of_lt (Nat.div_le_self _ _) (by omega)) (by omega) (by omega), show (48 : Int32) = nI 48 from rfl, nI_add, ch_lit (by omega), e1, bd2_e, lt1_e, lt1_e, nI_1, pk_div (by omega) (by omega) (by omega)]
      show fL_digits_8b N q (fL_digits_8 N q f) σ1 (nI v) (nI (ds.length + 1)) 1 (nI (1 / 10)) = _
      unfold fL_digits_8b
      rw [if_pos (by decide)]
      rw [List.length_append]; rfl
    refine ⟨σ1, ds ++ [48 + v / 10 ^ 0 % 10], by rw [List.length_append]; show 1 ≤ ds.length + 1; omega, by rw [List.length_append]; show ds.length + 1 ≤ 6; omega, ?_, ?_, by rw [← List.append_assoc]; exact B1, k1, ?_⟩
    · intro c hc
      rcases List.mem_append.mp hc with h | h
      · exact hds c h
      · have : c = 48 + v / 10 ^ 0 % 10 := by simpa using h
        subst this
        exact ⟨by omega, by omega⟩
    · rw [vl_app, hvl]
      rw [hp1, Nat.div_one, show (10 : Nat) ^ (0 + 1) = 10 from rfl]
      omega
    · show fL_digits_8b N q (fL_digits_8 N q (f + 1)) σ (nI v) (nI ds.length) _ (nI (10 ^ 0)) = _
      unfold fL_digits_8b fL_digits_29
      rw [if_neg (cR_nle 0 (by omega) (by omega))]
      by_cases hn : ds = []
      · rw [if_pos hn, if_pos rfl]
        by_cases hle : nI (10 ^ 0) ≤ nI v
        · rw [if_pos hle]; exact h34
        · rw [if_neg hle, if_pos (show nI (10 ^ 0) = 1 from rfl)]; exact h34
      · rw [if_neg hn, if_neg z10]; exact h34
  | succ e ih =>
    intro ds σ fx B hds hlen hl hvl hfx
    obtain ⟨f, rfl⟩ : ∃ f, fx = f + 1 := ⟨fx - 1, by omega⟩
    have hp := p10_le (e + 1) (by omega)
    have hp0 := p10_le e (by omega)
    have hps : (10 : Nat) ^ (e + 1) = 10 ^ e * 10 := Nat.pow_succ 10 e
    have hd : v / 10 ^ (e + 1) % 10 < 10 := Nat.mod_lt _ (by omega)
    have hdd : v / 10 ^ (e + 1 + 1) = v / 10 ^ (e + 1) / 10 := by rw [Nat.pow_succ 10 (e + 1), Nat.div_div_eq_div_mul]
    have hdv : (10 : Nat) ^ (e + 1) / 10 = 10 ^ e := by rw [hps]; exact Nat.mul_div_cancel _ (by omega)
    have typed : ∃ (σ' : St) (ds' : List Nat), 1 ≤ ds'.length ∧ ds'.length ≤ 6 ∧ dgs ds' ∧ vl 0 ds' = v ∧ Tx σ' (l ++ ds') ∧ Tk σ σ' ∧ fL_digits_34 N (fL_digits_8 N q f) σ (nI v) (nI ds.length) (nI (10 ^ (e + 1))) 1 = q σ' (nI ds'.length) := by
      obtain ⟨σ1, e1, B1, k1⟩ := X_type (c := 48 + v / 10 ^ (e + 1) % 10) B (by rw [List.length_append]; omega) (by omega)
      obtain ⟨σ2, ds2, g1, g2, g3, g4, g5, g6, g7⟩ := ih (ds ++ [48 + v / 10 ^ (e + 1) % 10]) σ1 f (by rw [← List.append_assoc]; exact B1) (fun c hc => by
        rcases List.mem_append.mp hc with h | h
        · exact hds c h
        · have : c = 48 + v / 10 ^ (e + 1) % 10 := by simpa using h
          subst this
          exact ⟨by omega, by omega⟩) (by rw [List.length_append]; show ds.length + 1 + e + 1 ≤ 6; omega) hl (by rw [vl_app, hvl, hdd]; omega) (by omega)
      refine ⟨σ2, ds2, g1, g2, g3, g4, g5, k1.tr g6, ?_⟩
      unfold fL_digits_34
      rw [if_neg z10, if_neg (cR_ne 0 (by omega) (by omega) (by omega)), pk_div (by omega) (by omega) (by omega), show (10 : Int32) = nI 10 from rfl, pk_rem (Nat.lt_of_le_of_lt (Nat.div_le_self _ _) (by omega)) (by omega) (by omega), show (48 : Int32) = nI 48 from rfl, nI_add, ch_lit (by omega), e1, bd2_e, lt1_e, lt1_e, nI_1, pk_div (by omega) (by omega) (by omega), hdv, ← g7]
      rw [if_neg (show ¬ ds ++ [48 + v / 10 ^ (e + 1) % 10] = [] by simp), List.length_append]; rfl
    have e0 : fL_digits_8 N q (f + 1) σ (nI v) (nI ds.length) (if ds = [] then 0 else 1) (nI (10 ^ (e + 1))) = fL_digits_8b N q (fL_digits_8 N q f) σ (nI v) (nI ds.length) (if ds = [] then 0 else 1) (nI (10 ^ (e + 1))) := rfl
    rw [e0]
    unfold fL_digits_8b fL_digits_29
    rw [if_neg (cR_nle 0 (by omega) (by omega))]
    by_cases hn : ds = []
    · rw [if_pos hn, if_pos rfl]
      by_cases hle : 10 ^ (e + 1) ≤ v
      · rw [if_pos (nI_le hle (by omega))]; exact typed
      · rw [if_neg (nI_nge (by omega) (by omega)), if_neg (cR_ne 1 (by omega) (by omega) (by omega))]
        obtain ⟨σ2, ds2, g1, g2, g3, g4, g5, g6, g7⟩ := ih ds σ f B hds (by omega) hl (by rw [hvl, hdd, Nat.div_eq_of_lt (show v < 10 ^ (e + 1) by omega)]) (by omega)
        refine ⟨σ2, ds2, g1, g2, g3, g4, g5, g6, ?_⟩
        unfold fL_digits_34
        rw [if_pos rfl, lt1_e, show (10 : Int32) = nI 10 from rfl, pk_div (by omega) (by omega) (by omega), hdv, ← g7, if_pos hn]
    · rw [if_neg hn, if_neg z10]; exact typed
theorem L_digits {σ : St} {l : List Nat} {v N : Nat} (hN : 2000 ≤ N) (hv : v < 1000000) (B : Tx σ l) (hl : l.length + 6 ≤ 40) : ∃ (σ' : St) (ds : List Nat), 1 ≤ ds.length ∧ ds.length ≤ 6 ∧ dgs ds ∧ vl 0 ds = v ∧ Tx σ' (l ++ ds) ∧ Tk σ σ' ∧ fL_digits N σ (nI v) = some (nI ds.length, σ') := by
  obtain ⟨σ', ds, g1, g2, g3, g4, g5, g6, g7⟩ := dig_loop (l := l) (N := N) hv (q := fun σ47 x46 => some (x46, σ47)) 5 [] σ N (by rw [List.append_nil]; exact B) (fun c hc => by cases hc) (by show 0 + 5 + 1 ≤ 6; omega) hl (by
    show 0 = v / 1000000
    omega) (by omega)
  exact ⟨σ', ds, g1, g2, g3, g4, g5, g6, g7⟩
/-- a number that the law types: a sign, what it is without, what it is over -/
theorem L_number {σ : St} {l : List Nat} {N a u : Nat} {x : Int32} {ng : Bool} (hN : 2000 ≤ N) (hx : (ng = false ∧ x = nI a) ∨ (ng = true ∧ x.toInt = -(a : Int) ∧ 0 < a)) (ha : a < 1000000) (u1 : 1 ≤ u) (u7 : u < 1000000) (B : Tx σ l) (hl : l.length + 14 ≤ 40) :
    ∃ (σ' : St) (da : List Nat) (db : Option (List Nat)), 1 ≤ da.length ∧ da.length ≤ 6 ∧ dgs da ∧ vl 0 da = a ∧ (∀ d, db = some d → dgs d ∧ 1 ≤ d.length ∧ d.length ≤ 6) ∧ dn db = u ∧ (nt ng da db).length ≤ 14 ∧ Tx σ' (l ++ nt ng da db) ∧ Tk σ σ' ∧ fL_number N σ x (nI u) = some (nI (nt ng da db).length, σ') := by
  have k28 : ∀ (σ0 : St) (l0 : List Nat) (c : Nat), Tx σ0 l0 → l0.length + 13 ≤ 40 → c < 1000 → ∃ (σ' : St) (da : List Nat) (db : Option (List Nat)), 1 ≤ da.length ∧ da.length ≤ 6 ∧ dgs da ∧ vl 0 da = a ∧ (∀ d, db = some d → dgs d ∧ 1 ≤ d.length ∧ d.length ≤ 6) ∧ dn db = u ∧ (nt false da db).length ≤ 13 ∧ Tx σ' (l0 ++ nt false da db) ∧ Tk σ0 σ' ∧ fL_number_28 N σ0 (nI u) (nI a) (nI c) = some (nI (c + (nt false da db).length), σ') := by
    intro σ0 l0 c B0 hl0 hc
    obtain ⟨σ1, da, g1, g2, g3, g4, g5, g6, g7⟩ := L_digits hN ha B0 (by omega)
    unfold fL_number_28
    rw [g7, bd2_e, lt1_e, nI_add]
    by_cases hu : u ≤ 1
    · rw [if_pos (cR_le 1 hu (by omega))]
      refine ⟨σ1, da, none, g1, g2, g3, g4, fun d hd => (by cases hd), (by show 1 = u; omega), ?_, ?_, g6, ?_⟩
      · rw [nt_f]; show (da ++ []).length ≤ 13; rw [List.append_nil]; omega
      · rw [nt_f]; show Tx σ1 (l0 ++ (da ++ [])); rw [List.append_nil]; exact g5
      · rw [nt_f]; show some (nI (c + da.length), σ1) = some (nI (c + (da ++ []).length), σ1); rw [List.append_nil]
    · obtain ⟨σ2, e2, B2, k2⟩ := X_type (c := 47) g5 (by rw [List.length_append]; omega) (by omega)
      obtain ⟨σ3, d, f1, f2, f3, f4, f5, f6, f7⟩ := L_digits hN u7 B2 (by rw [List.length_append, List.length_append]; show l0.length + da.length + 1 + 6 ≤ 40; omega)
      rw [if_neg (cR_nle 1 (by omega) (by omega)), show fX2_type σ1 (47 : Int32) = _ from e2, bd2_e, f7, bd2_e, lt1_e, li1, nI_add, nI_add]
      refine ⟨σ3, da, some d, g1, g2, g3, g4, fun d' hd => (by cases hd; exact ⟨f3, f1, f2⟩), f4, ?_, ?_, (g6.tr k2).tr f6, ?_⟩
      · rw [nt_f]; show (da ++ 47 :: d).length ≤ 13; rw [List.length_append]; show da.length + (d.length + 1) ≤ 13; omega
      · have e : l0 ++ nt false da (some d) = ((l0 ++ da) ++ [47]) ++ d := by rw [nt_f]; show l0 ++ (da ++ 47 :: d) = _; simp
        rw [e]; exact f5
      · rw [nt_f]; show _ = some (nI (c + (da ++ 47 :: d).length), σ3); rw [List.length_append]; show _ = some (nI (c + (da.length + (d.length + 1))), σ3); rw [show c + (da.length + (d.length + 1)) = c + da.length + (1 + d.length) from by omega]
  have tonone : ∀ (da : List Nat) (db : Option (List Nat)), nt true da db = 45 :: nt false da db := fun da db => rfl
  unfold fL_number fL_number_16
  rcases hx with ⟨rfl, rfl⟩ | ⟨rfl, hxi, ha0⟩
  · obtain ⟨σ', da, db, g1, g2, g3, g4, g5, g6, g7, g8, g9, g10⟩ := k28 σ l 0 B (by omega) (by omega)
    rw [if_pos (cL_le 0 (Nat.zero_le _) (by omega)), if_pos (cL_le 0 (Nat.zero_le _) (by omega))]
    exact ⟨σ', da, db, g1, g2, g3, g4, g5, g6, by omega, g8, g9, by rw [Nat.zero_add] at g10; exact g10⟩
  · have hneg : ¬ (0 : Int32) ≤ x := fun z => by
      rw [fa_le, hxi] at z
      have : (0 : Int32).toInt = 0 := rfl
      omega
    have hx2 : -x = nI a := by
      rw [fa_eq, fb_negI (by rw [hxi]; omega), hxi, nI_toInt (by omega)]; omega
    obtain ⟨σ1, e1, B1, k1⟩ := X_type (c := 45) B (by omega) (by omega)
    obtain ⟨σ', da, db, g1, g2, g3, g4, g5, g6, g7, g8, g9, g10⟩ := k28 σ1 (l ++ [45]) 1 B1 (by rw [List.length_append]; show l.length + 1 + 13 ≤ 40; omega) (by omega)
    rw [if_neg hneg, show fX2_type σ (45 : Int32) = _ from e1, bd2_e, lt1_e, if_neg hneg, hx2]
    refine ⟨σ', da, db, g1, g2, g3, g4, g5, g6, ?_, ?_, k1.tr g9, ?_⟩
    · rw [tonone]; show (nt false da db).length + 1 ≤ 14; omega
    · rw [tonone]
      have : (l ++ [45]) ++ nt false da db = l ++ 45 :: nt false da db := by simp
      rw [← this]; exact g8
    · rw [tonone]
      show fL_number_28 N σ1 (nI u) (nI a) (0 + 1) = some (nI ((nt false da db).length + 1), σ')
      rw [show (0 : Int32) + 1 = nI 1 from rfl, g10, Nat.add_comm]
