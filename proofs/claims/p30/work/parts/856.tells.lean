/-! foretelling -/
theorem tl_end {σ0 σ : St} {n t g rule len N r p b : Nat} (I0 : Iv σ0 n t g rule len r) (hco : Co n r (sI σ0 4 (nI 3)) σ) (hp : p < n) : ∃ σ', Co n r σ0 σ' ∧ fL_foretells_451 N σ (nI n) (nI b) (nI rule) (nI b) (nI p) 1 = some (1, σ') := by
  have I3 := (I0.rule (Nat.le_refl 3)).co hco
  have c1 : Co n r σ0 (sI σ 4 (nI rule)) := (Co.own I0.xu).sy.tr (hco.rule (nI rule))
  have I4 := I0.co c1
  refine ⟨sI σ 4 (nI rule), c1, ?_⟩
  unfold fL_foretells_451
  rw [X_setRule I3 I0.u3, bd2_e, if_pos (show nI 3 = 3 from rfl), if_pos rfl, if_neg z10, (X_worst_bad I4 hp).1, bd2_e, if_pos rfl, (X_worst_bad I4 hp).2, bd2_e, if_pos rfl, X_best_bad, bd2_e, if_pos rfl]
theorem tl_loop {σ0 : St} {n t g rule len N r c b : Nat} (hN : 2000 ≤ N) (I0 : Iv σ0 n t g rule len r) (h1 : 1 ≤ c) (hr : r + c ≤ 60) {W : Nat → Int64} (hW : ∀ i, i ≤ 3 → FW n t g i r c (sI σ0 4 (nI i)) (W i)) {q389 : St → Int32 → Int32 → Int32 → Int32 → Int32 → Int32 → Option (Int32 × St)} (a3 : Int32) : ∀ (k i fX s : Nat) (σ : St) (xb : Int32), i + k = 4 → k < fX → s ≤ 3 → Co n r (sI σ0 4 (nI s)) σ → (i = 0 → xb = -1) → (0 < i → xb = nI (bst W i).1 ∧ s + 1 = i) →
    ∃ σ' : St, Co n r (sI σ0 4 (nI 3)) σ' ∧ fL_foretells_297 N q389 fX σ (nI n) a3 (nI r) (nI c) (nI b) (nI rule) xb (bst W i).2 (nI i) = q389 σ' (nI n) a3 (nI c) (nI b) (nI rule) (nI (bst W 4).1) := by
  have h10 := I0.n10
  intro k
  induction k with
  | zero =>
    intro i fX s σ xb hi hfX hs hco hb0 hb
    obtain ⟨a, rfl⟩ : ∃ k, fX = k + 1 := ⟨fX - 1, by omega⟩
    have hi : i = 4 := by omega
    subst hi
    obtain ⟨e1, e2⟩ := hb (by omega)
    have hs3 : s = 3 := by omega
    subst hs3
    subst e1
    refine ⟨σ, hco, ?_⟩
    show fL_foretells_297b N q389 _ σ _ a3 _ _ _ _ _ _ (nI 4) = _
    unfold fL_foretells_297b
    rw [if_pos (cL_le 4 (Nat.le_refl _) (by omega))]
  | succ k ih =>
    intro i fX s σ xb hi hfX hs hco hb0 hb
    obtain ⟨a, rfl⟩ : ∃ k, fX = k + 1 := ⟨fX - 1, by omega⟩
    have Is := (I0.rule hs).co hco
    have h2 := hco.rule (nI i)
    have I2 := (I0.rule (s := i) (by omega)).co h2
    obtain ⟨σ1, k1, I1, e1⟩ := X_run hN I2 h1 hr
    obtain ⟨m, e2, w1, -, -⟩ := L_width (k := r + c) hN I1 (Nat.le_refl _)
    have hm : W i = m := FW.one h10 h2 (hW i (by omega)) ⟨σ1, k1, w1⟩
    subst hm
    have eb : fX2_back σ1 (nI c) = some (nI r, sI σ1 3 (nI r)) := by
      have := X_back (c := c) I1 (by omega)
      rw [show r + c - c = r from by omega] at this
      exact this
    have c2 : Co n r (sI σ0 4 (nI i)) (sI σ1 3 (nI r)) := h2.tr ((Ch.kp _ _ k1).back I2.xr)
    have eX : fL_foretells_297 N q389 (a + 1) σ (nI n) a3 (nI r) (nI c) (nI b) (nI rule) xb (bst W i).2 (nI i) = fL_foretells_297b N q389 (fL_foretells_297 N q389 a) σ (nI n) a3 (nI r) (nI c) (nI b) (nI rule) xb (bst W i).2 (nI i) := rfl
    unfold fL_foretells_297b at eX
    rw [if_neg (cL_nle 4 (by omega) (by omega)), X_setRule Is (by omega), bd2_e, e1, bd2_e, nI_add, if_pos rfl, e2, bd2_e] at eX
    have ebst : bst W (i + 1) = if i = 0 then (0, W 0) else if (bst W i).2 ≤ W i then bst W i else (i, W i) := rfl
    have h351 : ∀ (z : Int64), fL_foretells_351 N (fL_foretells_297 N q389 a) σ1 (nI n) a3 (nI r) (nI c) (nI b) (nI rule) z (nI i) (W i) = fL_foretells_297 N q389 a (sI σ1 3 (nI r)) (nI n) a3 (nI r) (nI c) (nI b) (nI rule) (nI i) (W i) (nI (i + 1)) := by
      intro z
      unfold fL_foretells_351
      rw [if_pos rfl, eb, bd2_e, lt1_e, nI_1]
    obtain ⟨σ', g1, g2⟩ := ih (i + 1) a i (sI σ1 3 (nI r)) (nI (bst W (i + 1)).1) (by omega) (by omega) (by omega) c2 (fun z => by omega) (fun _ => ⟨rfl, rfl⟩)
    refine ⟨σ', g1, eX.trans (Eq.trans ?_ g2)⟩
    by_cases h0 : i = 0
    · subst h0
      rw [hb0 rfl, if_pos (by decide), h351, ebst, if_pos rfl]
    · obtain ⟨x1, x2⟩ := hb (by omega)
      have hlt : (bst W i).1 < i := by
        obtain ⟨i', rfl⟩ : ∃ i', i = i' + 1 := ⟨i - 1, by omega⟩
        have := bst_lt W i'
        omega
      rw [x1, if_neg (cR_nlt 0 (Nat.zero_le _) (by omega)), ebst, if_neg h0]
      by_cases h : (bst W i).2 ≤ W i
      · rw [if_pos h, if_pos h, if_neg (nI_ne (by omega) (by omega) (by omega)), eb, bd2_e, lt1_e, nI_1]
      · rw [if_neg h, if_neg h, h351]
theorem tl_196 {σ0 σ : St} {n t g rule len N r j : Nat} (hN : 2000 ≤ N) (I0 : Iv σ0 n t g rule len r) (I : Iv σ n t g rule len (r + j)) (hk : Kp n r σ0 σ) (a3 : Int32) : ∃ σ', Co n r σ0 σ' ∧ fL_foretells_196 N σ (nI n) a3 (nI r) (nI j) = some (1, σ') := by
  have h10 := I0.n10
  have h60 := I0.r60
  have eb : fX2_back σ (nI j) = some (nI r, sI σ 3 (nI r)) := by
    have := X_back (c := j) I (by omega)
    rw [show r + j - j = r from by omega] at this
    exact this
  have c1 : Co n r σ0 (sI σ 3 (nI r)) := hk.back I0.xr
  have I1 := I0.co c1
  obtain ⟨d, hd, ed⟩ := L_low (a3 >>> ((5 : Int32) &&& 31)) (n := 5) (by omega) (by omega)
  have hc : (1 : Int32) + nI d = nI (1 + d) := by rw [li1, nI_add]
  unfold fL_foretells_196
  rw [eb, bd2_e, if_pos rfl, (X_goal_bad _ N).1, bd2_e, if_pos rfl, (X_goal_bad _ N).2, bd2_e, if_pos rfl, show fL_low (a3 >>> ((5 : Int32) &&& 31)) (5 : Int32) = _ from ed, bd0_e, lt1_e, hc]
  by_cases hr : r + (1 + d) ≤ 60
  · obtain ⟨σ2, W, c2, hW, e2⟩ := X_best hN I1 (c := 1 + d) (by omega) (by omega) hr
    have I2 := I1.co c2
    have hW2 : ∀ i, i ≤ 3 → FW n t g i r (1 + d) (sI σ2 4 (nI i)) (W i) := fun i hi => by
      obtain ⟨σf, k1, w1⟩ := hW i hi
      have h := c2.rule0 (nI i)
      obtain ⟨σf', k2, -, -⟩ := X_run (N := 2000) (c := 1 + d) (Nat.le_refl _) ((I1.rule hi).co h) (by omega) hr
      exact ⟨σf', k2, w1.co (Ch.co h10 _ _ h k1 k2) (Nat.le_refl _)⟩
    rw [e2, bd2_e, nI_add, if_pos (cR_le 60 hr (by omega)), (X_counts hN I2).2.2.2.2.1, bd2_e]
    obtain ⟨σ3, c3, e3⟩ := tl_loop (b := (bst W 4).1) (q389 := fun σ169 x163 x164 x165 x166 x167 x168 =>
 bd0 (fL_low (x164 >>> ((9 : Int32) &&& 31)) x163) fun r172 =>
  bd2 (fX2_worstStrategy N σ169 r172 x165) fun r175 σ174 =>
  bd2 (fX2_strategy σ174 r172) fun r178 σ177 =>
  if r178 = (0 : Int32) then (
  if r175 = (-1003 : Int32) then (
  fL_foretells_451 N σ177 x163 x166 x167 x168 r172 (1 : Int32))
  else (
  fL_foretells_451 N σ177 x163 x166 x167 x168 r172 (0 : Int32)))
  else (
  if r175 < (1 : Int32) then (
  fL_foretells_450 N σ177 x163 x166 x167 x168 r172)
  else (
  if (5 : Int32) < r175 then (
  fL_foretells_450 N σ177 x163 x166 x167 x168 r172)
  else (
  fL_foretells_451 N σ177 x163 x166 x167 x168 r172 (1 : Int32))))) hN I2 (by omega) hr hW2 a3 4 0 N rule σ2 (-1) (by omega) (by omega) I2.u3 (Co.own I2.xu) (fun _ => rfl) (fun z => by omega)
    rw [show fL_foretells_297 N _ N σ2 (nI n) a3 (nI r) (nI (1 + d)) (nI (bst W 4).1) (nI rule) (-1) 0 (0 : Int32) = _ from e3]
    have I3 := (I2.rule (Nat.le_refl 3)).co c3
    obtain ⟨p, hp, ep⟩ := L_low (a3 >>> ((9 : Int32) &&& 31)) (n := n) (by have := I0.n2; omega) (by omega)
    obtain ⟨σ4, v, c4, e4, hv⟩ := X_worst hN I3 hp (c := 1 + d) (by omega) (by omega) hr
    obtain ⟨σ5, c5, e5⟩ := tl_end (N := N) (b := (bst W 4).1) I2 (c3.tr c4) hp
    refine ⟨σ5, (c1.tr c2).tr c5, ?_⟩
    rw [ep, bd0_e, e4, bd2_e, X_strategy (I3.co c4) hp, bd2_e]
    rcases hv with ⟨h1, h2⟩ | ⟨h1, y, y1, y5, h2⟩
    · rw [if_pos (by rw [← cor_t, c4.cor]; exact h1), if_pos h2]; exact e5
    · rw [if_neg (by rw [← cor_t, c4.cor, h1]; decide), h2, if_neg (cR_nlt 1 y1 (by omega)), if_neg (cL_nlt 5 y5 (by omega))]; exact e5
  · refine ⟨sI σ 3 (nI r), c1, ?_⟩
    rw [X_best_full I1 (by omega) (by omega) (by omega), bd2_e, nI_add, if_neg (cR_nle 60 (by omega) (by omega)), if_pos rfl]
theorem L_foretells {σ : St} {n t g rule len N r : Nat} (hN : 2000 ≤ N) (I : Iv σ n t g rule len r) (a2 a3 : Int32) : ∃ σ', Co n r σ σ' ∧ fL_foretells N σ (nI n) a2 a3 = some (1, σ') := by
  have h10 := I.n10
  have h60 := I.r60
  have hg7 := I.g7
  obtain ⟨j1, h1, e1⟩ := L_low a2 (n := 50) (by omega) (by omega)
  obtain ⟨j2, h2, e2⟩ := L_low (a2 >>> ((6 : Int32) &&& 31)) (n := 9) (by omega) (by omega)
  obtain ⟨j3, h3, e3⟩ := L_low a3 (n := 12) (by omega) (by omega)
  have hc : (1 : Int32) + nI j2 = nI (1 + j2) := by rw [li1, nI_add]
  obtain ⟨σ1, σ2, v, c1, x1, x2, hv⟩ := X_tell (a := j1) (b := 1 + j2) (c := j3) hN I (by omega) (by omega) (by omega) (by omega)
  have I1 := I.co c1
  unfold fL_foretells
  rw [(X_counts hN I).2.2.1, bd2_e, show fL_low a2 (50 : Int32) = _ from e1, bd0_e, show fL_low (a2 >>> ((6 : Int32) &&& 31)) (9 : Int32) = _ from e2, bd0_e, lt1_e, hc, show fL_low a3 (12 : Int32) = _ from e3, bd0_e, x1, bd2_e, (X_counts hN I1).2.2.1, bd2_e, if_pos rfl, x2, bd2_e]
  rcases hv with ⟨rfl, c2⟩ | ⟨j, w, g1, g2, rfl, k1, w1, nf, pf⟩
  · have I2 := I.co c2
    obtain ⟨σ3, c3, e4⟩ := tl_196 (j := 0) hN I I2 c2.kp a3
    refine ⟨σ3, c3, ?_⟩
    rw [(X_counts hN I2).2.1, bd2_e, lt1_e, if_pos rfl, if_pos (by decide)]
    unfold fL_foretells_160
    rw [if_neg (by decide), if_pos rfl, (X_counts hN I2).2.2.1, bd2_e, if_pos rfl]
    unfold fL_foretells_185
    rw [if_pos (by decide)]
    exact e4
  · have I2 := k1.iv _ _ g2 I1
    have kk : Kp n r σ σ2 := c1.kp.tr (Ch.kp _ _ k1)
    obtain ⟨σ3, c3, e4⟩ := tl_196 (j := j) hN I I2 kk a3
    refine ⟨σ3, c3, ?_⟩
    obtain ⟨m, m1, m2, -, -⟩ := L_width (k := r + j) hN I2 (Nat.le_refl _)
    obtain rfl := m2.one w1
    have hnf : ¬ (nI j1).toInt64 * lN g < m * (nI (1 + j2)).toInt64 := fun z => nf (by unfold flg; rw [if_pos z])
    rw [(X_counts hN I2).2.1, bd2_e, lt1_e, if_pos rfl, if_neg (cR_nlt 0 (Nat.zero_le _) (by omega)), (X_counts hN I2).2.2.1, bd2_e, nI_add, if_pos rfl, m1, bd2_e, nI_l (n := g) (by omega), if_neg hnf]
    have h160 : fL_foretells_160 N σ2 (nI n) a3 (nI r) (nI j) = some (1, σ3) := by
      unfold fL_foretells_160
      rw [if_pos (cL_le 0 (Nat.zero_le _) (by omega))]
      unfold fL_foretells_185
      by_cases hj : j = 0
      · subst hj
        rw [if_pos (cR_le 0 (Nat.le_refl _) (by omega))]; exact e4
      · rw [if_neg (cR_nle 0 (by omega) (by omega))]; exact e4
    by_cases hj : j = 0
    · subst hj
      rw [if_pos (cR_le 0 (Nat.le_refl _) (by omega))]; exact h160
    · obtain ⟨w', q1, q2⟩ := pf (by omega)
      obtain ⟨m', n1, n2, -, -⟩ := L_width (k := r + j - 1) hN I2 (by omega)
      obtain rfl := n2.one q1
      have hf : (nI j1).toInt64 * lN g < m' * (nI (1 + j2)).toInt64 := by
        unfold flg at q2
        by_cases z : (nI j1).toInt64 * lN g < m' * (nI (1 + j2)).toInt64
        · exact z
        · rw [if_neg z] at q2; exact absurd q2 z10
      rw [if_neg (cR_nle 0 (by omega) (by omega)), show nI (r + j) - (1 : Int32) = nI (r + j - 1) from (by rw [li1]; exact pk_sub (by omega)), n1, bd2_e, if_neg (fun z => by rw [fa_le64] at z; rw [fa_lt64] at hf; omega)]
      exact h160
