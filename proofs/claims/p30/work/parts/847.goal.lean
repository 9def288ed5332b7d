/-! going on until a width -/
def flg (a1 a2 : Int32) (g : Nat) (w : Int64) : Int32 := if (a1.toInt64 * lN g) < (w * a2.toInt64) then 0 else 1
theorem nI_n1005 {f : Nat} (h : f ≤ 60) : ¬ nI f = (-1005 : Int32) := fun q => by
  have := congrArg Int32.toInt q
  rw [nI_toInt (by omega)] at this
  have h : (-1005 : Int32).toInt = -1005 := rfl
  omega
theorem X_atM {σ : St} {n t g rule len N r : Nat} {w : Int64} {a1 a2 : Int32} (hN : 2000 ≤ N) (I : Iv σ n t g rule len r) (hw : Wd σ n r w) : fX2_isWidthAtMost N σ (a1.toInt64) (a2.toInt64) = some (flg a1 a2 g w, σ) := by
  obtain ⟨m, h1, h2, -⟩ := I.width hN (Nat.le_refl r)
  obtain rfl := h2.one hw
  have hg7 := I.g7
  unfold fX2_isWidthAtMost flg
  rw [I.xr, h1, bd2_e, I.xg, nI_l (by omega)]
  by_cases h : a1.toInt64 * lN g < m * a2.toInt64
  · rw [if_pos h, if_pos h]
  · rw [if_neg h, if_neg h]
theorem X_step {σ : St} {n t g rule len N r : Nat} (hN : 2000 ≤ N) (I : Iv σ n t g rule len r) (hr : r < 60) : ∃ σ' : St, Sx n t g rule r σ σ' ∧ Iv σ' n t g rule len (r + 1) ∧ fX2_carryOut N σ (1 : Int32) = some σ' := by
  obtain ⟨N1, rfl⟩ : ∃ f, N = f + 2 := ⟨N - 2, by omega⟩
  obtain ⟨σ1, s1, e⟩ := X_round (fX := N1 + 1) (q82 := fun σ47 => some σ47) hN I hr 1 0 (by omega) (by omega)
  refine ⟨σ1, s1, I.sx hr s1, ?_⟩
  refine Eq.trans e ?_
  show fX2_carryOut_2b (N1 + 2) _ _ σ1 (nI 1) (nI 1) = _
  unfold fX2_carryOut_2b
  rw [if_pos (nI_le (Nat.le_refl _) (by omega))]
theorem until_loop {n t g rule len N c : Nat} {a1 a2 : Int32} (hN : 2000 ≤ N) (hc : c ≤ 60) {qX qY : St → Int32 → Int32 → Int32 → Option (Int32 × St)} : ∀ (k i fX fY : Nat) (σ τ : St) (r : Nat), Iv σ n t g rule len r → Co n r σ τ → i + k = c → k < fX → k < fY →
    ∃ (σ' τ' : St) (j : Nat) (w : Int64), j ≤ k ∧ r + j ≤ 60 ∧ Ch n t g rule j r σ σ' ∧ Ch n t g rule j r τ τ' ∧ Wd σ' n (r + j) w ∧ (0 < j → ∃ w', Wd σ' n (r + j - 1) w' ∧ flg a1 a2 g w' = 0) ∧ fX2_carryOutUntil_3 N qX fX σ a1 a2 (nI c) (nI i) = qX σ' a1 a2 (nI (i + j)) ∧ fX2_carryOutUntil_3 N qY fY τ a1 a2 (nI c) (nI i) = qY τ' a1 a2 (nI (i + j)) := by
  intro k
  induction k with
  | zero =>
    intro i fX fY σ τ r I hco hi hfX hfY
    have h60 := I.r60
    obtain ⟨a, rfl⟩ : ∃ k, fX = k + 1 := ⟨fX - 1, by omega⟩
    obtain ⟨b, rfl⟩ : ∃ k, fY = k + 1 := ⟨fY - 1, by omega⟩
    obtain ⟨w, -, hw, -⟩ := I.width hN (Nat.le_refl r)
    refine ⟨σ, τ, 0, w, Nat.le_refl _, by omega, Co.rf, Co.rf, hw, fun z => by omega, ?_, ?_⟩
    · show fX2_carryOutUntil_3b N qX _ σ a1 a2 (nI c) (nI i) = _
      unfold fX2_carryOutUntil_3b
      rw [if_pos (nI_le (by omega) (by omega))]; rfl
    · show fX2_carryOutUntil_3b N qY _ τ a1 a2 (nI c) (nI i) = _
      unfold fX2_carryOutUntil_3b
      rw [if_pos (nI_le (by omega) (by omega))]; rfl
  | succ k ih =>
    intro i fX fY σ τ r I hco hi hfX hfY
    have h60 := I.r60
    have h10 := I.n10
    obtain ⟨a, rfl⟩ : ∃ k, fX = k + 1 := ⟨fX - 1, by omega⟩
    obtain ⟨b, rfl⟩ : ∃ k, fY = k + 1 := ⟨fY - 1, by omega⟩
    obtain ⟨w, -, hw, -⟩ := I.width hN (Nat.le_refl r)
    have J := I.co hco
    have hwt := hw.co hco (Nat.le_refl r)
    have eX : fX2_carryOutUntil_3 N qX (a + 1) σ a1 a2 (nI c) (nI i) = fX2_carryOutUntil_3b N qX (fX2_carryOutUntil_3 N qX a) σ a1 a2 (nI c) (nI i) := rfl
    have eY : fX2_carryOutUntil_3 N qY (b + 1) τ a1 a2 (nI c) (nI i) = fX2_carryOutUntil_3b N qY (fX2_carryOutUntil_3 N qY b) τ a1 a2 (nI c) (nI i) := rfl
    unfold fX2_carryOutUntil_3b at eX eY
    rw [if_neg (nI_nge (by omega) (by omega)), I.xr] at eX
    rw [if_neg (nI_nge (by omega) (by omega)), J.xr] at eY
    by_cases hr : r < 60
    · rw [if_neg (cL_nle 60 hr (by omega)), X_atM hN I hw, bd2_e] at eX
      rw [if_neg (cL_nle 60 hr (by omega)), X_atM hN J hwt, bd2_e] at eY
      by_cases hf : flg a1 a2 g w = 0
      · rw [if_pos hf] at eX eY
        obtain ⟨σ1, s1, I1, e1⟩ := X_step hN I hr
        obtain ⟨τ1, s2, J1, e2⟩ := X_step hN J hr
        rw [e1, bd0_e, lt1_e, nI_1] at eX
        rw [e2, bd0_e, lt1_e, nI_1] at eY
        obtain ⟨σ2, τ2, j, w2, g1, g2, g3, g4, g5, g6, g7, g8⟩ := ih (i + 1) a b σ1 τ1 (r + 1) I1 (Sx.co h10 hco s1 s2) (by omega) (by omega) (by omega)
        refine ⟨σ2, τ2, j + 1, w2, by omega, by omega, ⟨σ1, s1, g3⟩, ⟨τ1, s2, g4⟩, by rw [show r + (j + 1) = r + 1 + j from by omega]; exact g5, fun _ => ?_, ?_, ?_⟩
        · by_cases hj : 0 < j
          · obtain ⟨w', h1, h2⟩ := g6 hj
            exact ⟨w', by rw [show r + (j + 1) - 1 = r + 1 + j - 1 from by omega]; exact h1, h2⟩
          · have hj0 : j = 0 := by omega
            subst hj0
            exact ⟨w, (hw.kp s1.1 (Nat.le_refl r)).kp (Ch.kp _ _ g3) (by omega), hf⟩
        · rw [show i + (j + 1) = i + 1 + j from by omega]; exact eX.trans g7
        · rw [show i + (j + 1) = i + 1 + j from by omega]; exact eY.trans g8
      · rw [if_neg hf] at eX eY
        exact ⟨σ, τ, 0, w, by omega, by omega, Co.rf, Co.rf, hw, fun z => by omega, eX, eY⟩
    · rw [if_pos (cL_le 60 (by omega) (by omega))] at eX eY
      exact ⟨σ, τ, 0, w, by omega, by omega, Co.rf, Co.rf, hw, fun z => by omega, eX, eY⟩
theorem X_until {σ τ : St} {n t g rule len N r c : Nat} {a1 a2 : Int32} (hN : 2000 ≤ N) (I : Iv σ n t g rule len r) (hco : Co n r σ τ) (hc : c ≤ 60) :
    ∃ (σ' τ' : St) (j : Nat) (w : Int64), j ≤ c ∧ r + j ≤ 60 ∧ Ch n t g rule j r σ σ' ∧ Ch n t g rule j r τ τ' ∧ Wd τ' n (r + j) w ∧ (0 < j → ∃ w', Wd τ' n (r + j - 1) w' ∧ flg a1 a2 g w' = 0) ∧ fX2_carryOutUntil N σ a1 a2 (nI c) = some (if flg a1 a2 g w = 0 then -1005 else nI j, σ') ∧ fX2_carryOutUntil N τ a1 a2 (nI c) = some (if flg a1 a2 g w = 0 then -1005 else nI j, τ') := by
  have h10 := I.n10
  obtain ⟨σ', τ', j, w, g1, g2, g3, g4, g5, g6, g7, g8⟩ := until_loop (a1 := a1) (a2 := a2) (qX := fun σ30 x27 x28 x29 => bd2 (fX2_isWidthAtMost N σ30 (x27.toInt64) (x28.toInt64)) fun r34 σ33 => if r34 = (0 : Int32) then (some ((-1005 : Int32), σ33)) else (some (x29, σ33))) (qY := fun σ30 x27 x28 x29 => bd2 (fX2_isWidthAtMost N σ30 (x27.toInt64) (x28.toInt64)) fun r34 σ33 => if r34 = (0 : Int32) then (some ((-1005 : Int32), σ33)) else (some (x29, σ33))) hN hc c 0 N N σ τ r I hco (by omega) (by omega) (by omega)
  have I' := g3.iv _ _ g2 I
  have J' := g4.iv _ _ g2 (I.co hco)
  have cc := Ch.co h10 _ _ hco g3 g4
  have g5' := g5.co cc (Nat.le_refl _)
  refine ⟨σ', τ', j, w, g1, g2, g3, g4, g5', fun hj => ?_, ?_, ?_⟩
  · obtain ⟨w', h1, h2⟩ := g6 hj
    exact ⟨w', h1.co cc (by omega), h2⟩
  · unfold fX2_carryOutUntil
    refine Eq.trans g7 ?_
    rw [X_atM hN I' g5, bd2_e, Nat.zero_add]
    by_cases h : flg a1 a2 g w = 0
    · rw [if_pos h, if_pos h]
    · rw [if_neg h, if_neg h]
  · unfold fX2_carryOutUntil
    refine Eq.trans g8 ?_
    rw [X_atM hN J' g5', bd2_e, Nat.zero_add]
    by_cases h : flg a1 a2 g w = 0
    · rw [if_pos h, if_pos h]
    · rw [if_neg h, if_neg h]
theorem X_goal {a b c : Nat} (ha : a ≤ 1000) (hb : 1 ≤ b) (hb2 : b ≤ 1000) (hc : c ≤ 60) : fX2_isWidthGoal (nI a) (nI b) (nI c) = some 1 := by
  unfold fX2_isWidthGoal
  rw [isW, if_pos ⟨cL_le 0 (Nat.zero_le _) (by omega), cR_le 1000 ha (by omega)⟩, bd0_e, if_neg z10, isW, if_pos ⟨cL_le 1 hb (by omega), cR_le 1000 hb2 (by omega)⟩, bd0_e, if_neg z10, isW, if_pos ⟨cL_le 0 (Nat.zero_le _) (by omega), cR_le 60 hc (by omega)⟩, bd0_e, if_neg z10]
/-- what is foretold comes -/
theorem X_tell {σ : St} {n t g rule len N r a b c : Nat} (hN : 2000 ≤ N) (I : Iv σ n t g rule len r) (ha : a ≤ 1000) (hb : 1 ≤ b) (hb2 : b ≤ 1000) (hc : c ≤ 60) :
    ∃ (σ1 σ2 : St) (v : Int32), Co n r σ σ1 ∧ fX2_roundsTo N σ (nI a) (nI b) (nI c) = some (v, σ1) ∧ fX2_runTo N σ1 (nI a) (nI b) (nI c) = some (v, σ2) ∧
      ((v = -1005 ∧ Co n r σ σ2) ∨ ∃ (j : Nat) (w : Int64), j ≤ c ∧ r + j ≤ 60 ∧ v = nI j ∧ Ch n t g rule j r σ1 σ2 ∧ Wd σ2 n (r + j) w ∧ ¬ flg (nI a) (nI b) g w = 0 ∧ (0 < j → ∃ w', Wd σ2 n (r + j - 1) w' ∧ flg (nI a) (nI b) g w' = 0)) := by
  obtain ⟨σ', -, j, w, g1, g2, g3, -, -, -, g7, -⟩ := X_until (a1 := nI a) (a2 := nI b) hN I Co.rf hc
  have c1 : Co n r σ (sI σ' 3 (nI r)) := (Ch.kp _ _ g3).back I.xr
  obtain ⟨σ'', τ', j', w', k1, k2, k3, k4, k5, k6, k7, k8⟩ := X_until (a1 := nI a) (a2 := nI b) hN I c1 hc
  have hv : (if flg (nI a) (nI b) g w = 0 then (-1005 : Int32) else nI j) = (if flg (nI a) (nI b) g w' = 0 then -1005 else nI j') := by
    rw [g7] at k7
    exact (so2 k7).1
  have I1 := I.co c1
  by_cases hf : flg (nI a) (nI b) g w' = 0
  · rw [if_pos hf] at k8 hv
    refine ⟨sI σ' 3 (nI r), sI τ' 3 (nI r), -1005, c1, ?_, ?_, Or.inl ⟨rfl, c1.tr ((Ch.kp _ _ k4).back I1.xr)⟩⟩
    · unfold fX2_roundsTo
      rw [X_goal ha hb hb2 hc, bd0_e, if_neg z10, lt1_e, g7, bd2_e, lt1_e, hv, I.xr]
    · unfold fX2_runTo
      rw [X_goal ha hb hb2 hc, bd0_e, if_neg z10, lt1_e, k8, bd2_e, if_pos rfl, lt1_e, I1.xr]
  · rw [if_neg hf] at k8 hv
    refine ⟨sI σ' 3 (nI r), τ', nI j', c1, ?_, ?_, Or.inr ⟨j', w', k1, k2, rfl, k4, k5, hf, k6⟩⟩
    · unfold fX2_roundsTo
      rw [X_goal ha hb hb2 hc, bd0_e, if_neg z10, lt1_e, g7, bd2_e, lt1_e, hv, I.xr]
    · unfold fX2_runTo
      rw [X_goal ha hb hb2 hc, bd0_e, if_neg z10, lt1_e, k8, bd2_e, if_neg (nI_n1005 (by omega))]
/-! the best rule -/
theorem Iv.rule {σ : St} {n t g rule len r s : Nat} (I : Iv σ n t g rule len r) (h : s ≤ 3) : Iv (sI σ 4 (nI s)) n t g s len r := by
  obtain ⟨a1, a2, a3, a4, a5, a6, a7, a8, a9, a10, a11, a12, a13, a14, a15⟩ := I
  exact ⟨a1, a2, a3, a4, a5, a6, a7, a8, a9, a10, rfl, h, a13, a14, a15⟩
theorem Co.rule {n r : Nat} {a b : St} {u : Int32} (h : Co n r (sI a 4 u) b) (v : Int32) : Co n r (sI a 4 v) (sI b 4 v) := by
  refine ⟨fun j hj => ?_, h.2⟩
  rw [gI_sI, gI_sI]
  by_cases e : j = 4
  · rw [if_pos e, if_pos e]
  · rw [if_neg e, if_neg e, h.1 j hj, gI_sI, if_neg e]
theorem Co.rule0 {n r : Nat} {a b : St} (h : Co n r a b) (v : Int32) : Co n r (sI a 4 v) (sI b 4 v) := by
  refine ⟨fun j hj => ?_, h.2⟩
  rw [gI_sI, gI_sI]
  by_cases e : j = 4
  · rw [if_pos e, if_pos e]
  · rw [if_neg e, if_neg e, h.1 j hj]
theorem Co.own {n r : Nat} {a : St} {v : Int32} (h : gI a 4 = v) : Co n r (sI a 4 v) a := by
  refine ⟨fun j hj => ?_, fun _ => rfl, fun _ _ => rfl, fun _ _ => ⟨rfl, rfl⟩, fun _ _ _ _ _ _ _ => rfl⟩
  rw [gI_sI]
  by_cases e : j = 4
  · rw [if_pos e, e, h]
  · rw [if_neg e]
/-- the width after c more rounds -/
def FW (n t g rule r c : Nat) (σ : St) (m : Int64) : Prop := ∃ σ1, Ch n t g rule c r σ σ1 ∧ Wd σ1 n (r + c) m
theorem FW.one {n t g rule r c : Nat} {σ τ : St} {m m' : Int64} (h10 : n ≤ 10) (h : Co n r σ τ) (a : FW n t g rule r c σ m) (b : FW n t g rule r c τ m') : m = m' := by
  obtain ⟨σ1, k1, w1⟩ := a
  obtain ⟨τ1, k2, w2⟩ := b
  exact (w1.co (Ch.co h10 _ _ h k1 k2) (Nat.le_refl _)).one w2
def bst (w : Nat → Int64) : Nat → Nat × Int64
  | 0 => (0, 0)
  | i + 1 => if i = 0 then (0, w 0) else if (bst w i).2 ≤ w i then bst w i else (i, w i)
theorem bst_lt (w : Nat → Int64) : ∀ i, (bst w (i + 1)).1 ≤ i
  | 0 => Nat.le_refl _
  | i + 1 => by
    have ih := bst_lt w i
    show (if i + 1 = 0 then (0, w 0) else if (bst w (i + 1)).2 ≤ w (i + 1) then bst w (i + 1) else (i + 1, w (i + 1))).1 ≤ i + 1
    rw [if_neg (by omega)]
    by_cases h : (bst w (i + 1)).2 ≤ w (i + 1)
    · rw [if_pos h]; omega
    · rw [if_neg h]; exact Nat.le_refl _
theorem best_loop {n t g rule len N r c : Nat} (hN : 2000 ≤ N) {σ0 : St} (I0 : Iv σ0 n t g rule len r) (hr : r + c ≤ 60) {W : Nat → Int64} (hW : ∀ i, i ≤ 3 → FW n t g i r c (sI σ0 4 (nI i)) (W i)) {q87 : St → Int32 → Int32 → Option (Int32 × St)} (x : Int32) : ∀ (k i fX : Nat) (σ : St) (u : Int32), i + k = 4 → k < fX → Co n r (sI σ0 4 u) σ →
    ∃ (σ' : St) (u' : Int32), Co n r (sI σ0 4 u') σ' ∧ fX2_bestRule_42 N q87 fX σ (nI c) x (nI (bst W i).1) (bst W i).2 (nI i) = q87 σ' x (nI (bst W 4).1) := by
  have h10 := I0.n10
  intro k
  induction k with
  | zero =>
    intro i fX σ u hi hfX hco
    obtain ⟨a, rfl⟩ : ∃ k, fX = k + 1 := ⟨fX - 1, by omega⟩
    have hi : i = 4 := by omega
    subst hi
    refine ⟨σ, u, hco, ?_⟩
    show fX2_bestRule_42b N q87 _ σ (nI c) x _ _ (nI 4) = _
    unfold fX2_bestRule_42b
    rw [if_pos (cL_lt 3 (by omega) (by omega))]
  | succ k ih =>
    intro i fX σ u hi hfX hco
    obtain ⟨a, rfl⟩ : ∃ k, fX = k + 1 := ⟨fX - 1, by omega⟩
    have h2 := hco.rule (nI i)
    have I2 := (I0.rule (s := i) (by omega)).co h2
    obtain ⟨σ1, σf, m, c1, k1, w1, -, -, e1⟩ := X_future (c := c) hN I2 hr
    have hm : W i = m := FW.one h10 h2 (hW i (by omega)) ⟨σf, k1, w1⟩
    subst hm
    have eX : fX2_bestRule_42 N q87 (a + 1) σ (nI c) x (nI (bst W i).1) (bst W i).2 (nI i) = fX2_bestRule_42b N q87 (fX2_bestRule_42 N q87 a) σ (nI c) x (nI (bst W i).1) (bst W i).2 (nI i) := rfl
    unfold fX2_bestRule_42b at eX
    rw [if_neg (cL_nlt 3 (by omega) (by omega)), lt1_e, e1, bd2_e] at eX
    obtain ⟨σ', u', g1, g2⟩ := ih (i + 1) a σ1 (nI i) (by omega) (by omega) (h2.tr c1)
    refine ⟨σ', u', g1, eX.trans (Eq.trans ?_ g2)⟩
    have eb : bst W (i + 1) = if i = 0 then (0, W 0) else if (bst W i).2 ≤ W i then bst W i else (i, W i) := rfl
    rw [eb]
    by_cases h0 : i = 0
    · subst h0
      rw [if_pos (show nI 0 = 0 from rfl), if_pos rfl, lt1_e, nI_1]
    · rw [if_neg (cR_ne 0 h0 (by omega) (by omega)), if_neg h0]
      by_cases h : (bst W i).2 ≤ W i
      · rw [if_pos h, if_pos h, lt1_e, nI_1]
      · rw [if_neg h, if_neg h, lt1_e, nI_1]
theorem X_best {σ : St} {n t g rule len N r c : Nat} (hN : 2000 ≤ N) (I : Iv σ n t g rule len r) (h1 : 1 ≤ c) (h2 : c ≤ 10) (hr : r + c ≤ 60) : ∃ (σ' : St) (W : Nat → Int64), Co n r σ σ' ∧ (∀ i, i ≤ 3 → FW n t g i r c (sI σ 4 (nI i)) (W i)) ∧ fX2_bestRule N σ (nI c) = some (nI (bst W 4).1, σ') := by
  have hex : ∀ i : Nat, ∃ m : Int64, i ≤ 3 → FW n t g i r c (sI σ 4 (nI i)) m := fun i => by
    by_cases hi : i ≤ 3
    · obtain ⟨-, σf, m, -, k1, w1, -⟩ := X_future (c := c) hN (I.rule hi) hr
      exact ⟨m, fun _ => ⟨σf, k1, w1⟩⟩
    · exact ⟨0, fun z => absurd z hi⟩
  obtain ⟨W, hW⟩ := Classical.axiomOfChoice hex
  obtain ⟨σ1, u, g1, g2⟩ := best_loop (q87 := fun σ42 x40 x41 => lt1 (sI σ42 4 x40) fun σ44 => some (x41, σ44)) hN I hr hW (nI rule) 4 0 N σ (nI rule) (by omega) (by omega) (Co.own I.xu)
  refine ⟨sI σ1 4 (nI rule), W, (Co.own I.xu).sy.tr (g1.rule (nI rule)), hW, ?_⟩
  unfold fX2_bestRule
  rw [isW, if_pos ⟨cL_le 1 h1 (by omega), cR_le 10 h2 (by omega)⟩, bd0_e, if_neg z10, I.xr, nI_add, if_pos (cR_le 60 hr (by omega)), lt1_e, I.xu]
  exact g2
theorem X_best_full {σ : St} {n t g rule len N r c : Nat} (I : Iv σ n t g rule len r) (h1 : 1 ≤ c) (h2 : c ≤ 10) (hr : 60 < r + c) : fX2_bestRule N σ (nI c) = some (-1004, σ) := by
  have := I.r60
  unfold fX2_bestRule
  rw [isW, if_pos ⟨cL_le 1 h1 (by omega), cR_le 10 h2 (by omega)⟩, bd0_e, if_neg z10, I.xr, nI_add, if_neg (cR_nle 60 (by omega) (by omega))]
/-! the worst strategy -/
theorem upd_upd (f : Nat → Int32) (p : Nat) (u v : Int32) : upd (upd f p u) p v = upd f p v := by
  funext j
  by_cases e : j = p
  · subst e; rw [pk_us, pk_us]
  · rw [pk_un e, pk_un e, pk_un e]
theorem upd_own (f : Nat → Int32) (p : Nat) : upd f p (f p) = f := by
  funext j
  by_cases e : j = p
  · subst e; rw [pk_us]
  · rw [pk_un e]
/-- another strategy of a faulty node -/
def sS (σ : St) (p s : Nat) : St := sF σ 2 (upd (gF σ 2) p (nI s))
theorem cor_sS {σ : St} {p s : Nat} (h1 : 1 ≤ s) (h5 : s ≤ 5) (j : Nat) : cor (sS σ p s) j = true ↔ cor σ j = true ∧ j ≠ p := by
  have e : gF (sS σ p s) 2 j = upd (gF σ 2) p (nI s) j := rfl
  rw [cor_t, cor_t, e]
  by_cases hj : j = p
  · subst hj
    rw [pk_us]
    exact ⟨fun z => absurd z (nI_ne0 h1 (by omega)), fun z => absurd rfl z.2⟩
  · rw [pk_un hj]
    exact ⟨fun z => ⟨z, hj⟩, fun z => z.1⟩
theorem Iv.strat {σ : St} {n t g rule len r p s : Nat} (I : Iv σ n t g rule len r) (h1 : 1 ≤ s) (h5 : s ≤ 5) : Iv (sS σ p s) n t g rule len r := by
  obtain ⟨a1, a2, a3, a4, a5, a6, a7, a8, a9, a10, a11, a12, a13, a14, a15, a16, a17, a18, a19, a20⟩ := I
  refine ⟨a1, a2, a3, a4, a5, a6, a7, a8, a9, a10, a11, a12, a13, a14, a15, ?_, a17, a18, a19, ?_⟩
  · intro j hj
    show ∃ s' : Nat, s' ≤ 5 ∧ upd (gF σ 2) p (nI s) j = nI s'
    by_cases e : j = p
    · subst e; rw [pk_us]; exact ⟨s, h5, rfl⟩
    · rw [pk_un e]; exact a16 j hj
  · intro k j s' hk hj hs hc
    exact a20 k j s' hk hj hs ((cor_sS h1 h5 j).mp hc).1
theorem Co.strat {n r p s i : Nat} {a b : St} (h : Co n r (sS a p s) b) (s1 : 1 ≤ s) (s5 : s ≤ 5) (i1 : 1 ≤ i) (i5 : i ≤ 5) : Co n r (sS a p i) (sS b p i) := by
  refine ⟨h.1, fun j => ?_, h.2.2.1, h.2.2.2.1, fun k q s' hk hq hs hc => h.2.2.2.2 k q s' hk hq hs ((cor_sS s1 s5 q).mpr ((cor_sS i1 i5 q).mp hc))⟩
  by_cases e : j = 2
  · subst e
    show upd (gF b 2) p (nI i) = upd (gF a 2) p (nI i)
    have e2 : gF b 2 = upd (gF a 2) p (nI s) := h.2.1 2
    rw [e2, upd_upd]
  · have e2 : gF (sS b p i) j = gF b j := by
      unfold sS; rw [gF_sF, if_neg e]
    have e3 : gF (sS a p i) j = gF a j := by
      unfold sS; rw [gF_sF, if_neg e]
    have e4 : gF (sS a p s) j = gF a j := by
      unfold sS; rw [gF_sF, if_neg e]
    rw [e2, e3, h.2.1 j, e4]
theorem sS_own {σ : St} {p s : Nat} (h : gF σ 2 p = nI s) : sS σ p s = σ := by
  unfold sS
  rw [← h, upd_own, sF_self]
theorem worst_loop {n t g rule len N r p c : Nat} (hN : 2000 ≤ N) {σ0 : St} (I0 : Iv σ0 n t g rule len r) (hp : p < 10) (hr : r + c ≤ 60) {q114 : St → Int32 → Int32 → Int32 → Option (Int32 × St)} (x : Int32) : ∀ (k i fX s y : Nat) (σ : St) (w : Int64), 1 ≤ i → i + k = 6 → k < fX → 1 ≤ s → s ≤ 5 → 1 ≤ y → y ≤ 5 → Co n r (sS σ0 p s) σ →
    ∃ (σ' : St) (s' y' : Nat), 1 ≤ s' ∧ s' ≤ 5 ∧ 1 ≤ y' ∧ y' ≤ 5 ∧ Co n r (sS σ0 p s') σ' ∧ fX2_worstStrategy_71 N q114 fX σ (nI p) (nI c) x (nI y) w (nI i) = q114 σ' (nI p) x (nI y') := by
  intro k
  induction k with
  | zero =>
    intro i fX s y σ w h1 hi hfX s1 s5 y1 y5 hco
    obtain ⟨a, rfl⟩ : ∃ k, fX = k + 1 := ⟨fX - 1, by omega⟩
    have hi : i = 6 := by omega
    subst hi
    refine ⟨σ, s, y, s1, s5, y1, y5, hco, ?_⟩
    show fX2_worstStrategy_71b N q114 _ σ (nI p) (nI c) x (nI y) w (nI 6) = _
    unfold fX2_worstStrategy_71b
    rw [if_pos (cL_lt 5 (by omega) (by omega))]
  | succ k ih =>
    intro i fX s y σ w h1 hi hfX s1 s5 y1 y5 hco
    obtain ⟨a, rfl⟩ : ∃ k, fX = k + 1 := ⟨fX - 1, by omega⟩
    have h2 := hco.strat s1 s5 h1 (show i ≤ 5 by omega)
    have I2 := (I0.strat (p := p) h1 (show i ≤ 5 by omega)).co h2
    obtain ⟨σ1, σf, m, c1, -, -, -, -, e1⟩ := X_future (c := c) hN I2 hr
    have eX : fX2_worstStrategy_71 N q114 (a + 1) σ (nI p) (nI c) x (nI y) w (nI i) = fX2_worstStrategy_71b N q114 (fX2_worstStrategy_71 N q114 a) σ (nI p) (nI c) x (nI y) w (nI i) := rfl
    unfold fX2_worstStrategy_71b at eX
    rw [if_neg (cL_nlt 5 (by omega) (by omega)), if_neg (nI_in (by omega) (by omega)), nI_clamp (by omega), lt1_e, show sF σ 2 (upd (gF σ 2) p (nI i)) = sS σ p i from rfl, e1, bd2_e] at eX
    by_cases h : m ≤ w
    · rw [if_pos h, lt1_e, nI_1] at eX
      obtain ⟨σ', s', y', g1, g2, g3, g4, g5, g6⟩ := ih (i + 1) a i y σ1 w (by omega) (by omega) (by omega) h1 (by omega) y1 y5 (h2.tr c1)
      exact ⟨σ', s', y', g1, g2, g3, g4, g5, eX.trans g6⟩
    · rw [if_neg h, lt1_e, nI_1] at eX
      obtain ⟨σ', s', y', g1, g2, g3, g4, g5, g6⟩ := ih (i + 1) a i i σ1 m (by omega) (by omega) (by omega) h1 (by omega) h1 (by omega) (h2.tr c1)
      exact ⟨σ', s', y', g1, g2, g3, g4, g5, eX.trans g6⟩
theorem X_worst {σ : St} {n t g rule len N r p c : Nat} (hN : 2000 ≤ N) (I : Iv σ n t g rule len r) (hp : p < n) (h1 : 1 ≤ c) (h2 : c ≤ 10) (hr : r + c ≤ 60) : ∃ (σ' : St) (v : Int32), Co n r σ σ' ∧ fX2_worstStrategy N σ (nI p) (nI c) = some (v, σ') ∧ ((cor σ p = true ∧ v = -1003) ∨ (cor σ p = false ∧ ∃ y : Nat, 1 ≤ y ∧ y ≤ 5 ∧ v = nI y)) := by
  have h10 := I.n10
  unfold fX2_worstStrategy
  rw [I.node hp, bd2_e, if_neg z10, isW, if_pos ⟨cL_le 1 h1 (by omega), cR_le 10 h2 (by omega)⟩, bd0_e, if_neg z10, I.corr hp, bd2_e]
  by_cases hc : cor σ p = true
  · rw [if_pos hc, if_neg z10]
    exact ⟨σ, _, Co.rf, rfl, Or.inl ⟨hc, rfl⟩⟩
  · have hcf : cor σ p = false := by cases h : cor σ p <;> simp_all
    obtain ⟨s0, hs0, hs0'⟩ := I.s5 p (by omega)
    have hs1 : 1 ≤ s0 := by
      by_cases z : s0 = 0
      · subst z; exact absurd hs0' (cor_f.mp hcf)
      · omega
    rw [if_neg hc, if_pos rfl, I.xr, nI_add, if_pos (cR_le 60 hr (by omega)), if_neg (nI_in (by omega) (by omega)), nI_clamp (by omega), lt1_e, hs0']
    obtain ⟨σ1, s', y', g1, g2, g3, g4, g5, g6⟩ := worst_loop (q114 := fun σ56 x53 x54 x55 => if (x53 < 0 ∨ 10 ≤ (x53).toNatClampNeg) then none else lt1 (sF σ56 2 (upd (gF σ56 2) (x53).toNatClampNeg x54)) fun σ60 => some (x55, σ60)) hN I (show p < 10 by omega) hr (nI s0) 5 1 N s0 1 σ (-1) (Nat.le_refl _) (by omega) (by omega) hs1 hs0 (Nat.le_refl _) (by omega) (by rw [sS_own hs0']; exact Co.rf)
    refine ⟨sS σ1 p s0, nI y', ?_, Eq.trans g6 ?_, Or.inr ⟨hcf, y', g3, g4, rfl⟩⟩
    · have := g5.strat g1 g2 hs1 hs0
      rw [sS_own hs0'] at this
      exact this
    · rw [if_neg (nI_in (by omega) (by omega)), nI_clamp (by omega), lt1_e]; rfl
