/-! several rounds; going on until the width is reached; going back -/
theorem RV.back {σ τ : St} {n r r' : Nat} (V : RV σ τ n r') (h : r ≤ r') : RV (sI σ 3 (nI r)) (sI τ 3 (nI r)) n r :=
  ⟨rfl, rfl, by have := V.2.2.1; omega, fun k p s hk hp hs hc => V.2.2.2 k p s (by omega) hp hs hc⟩
theorem rounds_gen {n t g rule len N c : Nat} (hN : 2000 ≤ N) (hc60 : c < 2147483648) {α : Type} {LM : Nat → St → Nat → α} {E : St → α} (hs : ∀ f τ τ' i, i < c → fX3_round N τ = some τ' → LM (f + 1) τ i = LM f τ' (i + 1)) (he : ∀ f τ, LM (f + 1) τ c = E τ) {q82 : St → Option St} : ∀ (k i fX fM : Nat) (σ τ : St) (r : Nat), RP σ τ n t g rule len → RV σ τ n r → i + k = c → r + k ≤ 60 → k < fX → k < fM →
    ∃ (σ' τ' : St), xK σ σ' ∧ mK τ τ' ∧ RP σ' τ' n t g rule len ∧ RV σ' τ' n (r + k) ∧ LM fM τ i = E τ' ∧ fX2_carryOut_2 N q82 fX σ (nI c) (nI i) = q82 σ' := by
  intro k
  induction k with
  | zero =>
    intro i fX fM σ τ r R V hi hr hfX hfM
    obtain ⟨a, rfl⟩ : ∃ k, fX = k + 1 := ⟨fX - 1, by omega⟩
    obtain ⟨b, rfl⟩ : ∃ k, fM = k + 1 := ⟨fM - 1, by omega⟩
    have hin : i = c := by omega
    subst hin
    refine ⟨σ, τ, xK.rf, mK.rf, R, V, he b τ, ?_⟩
    show fX2_carryOut_2b N q82 _ σ (nI i) (nI i) = _
    unfold fX2_carryOut_2b
    rw [if_pos (nI_le (Nat.le_refl _) (by omega))]
  | succ k ih =>
    intro i fX fM σ τ r R V hi hr hfX hfM
    obtain ⟨a, rfl⟩ : ∃ k, fX = k + 1 := ⟨fX - 1, by omega⟩
    obtain ⟨b, rfl⟩ : ∃ k, fM = k + 1 := ⟨fM - 1, by omega⟩
    obtain ⟨σ1, τ1, x1, m1, R1, V1, e1, e2⟩ := round_eq (fX := a) (q82 := q82) hN R V (by omega) c i (by omega) hc60
    obtain ⟨σ2, τ2, x2, m2, R2, V2, e3, e4⟩ := ih (i + 1) a b σ1 τ1 (r + 1) R1 V1 (by omega) (by omega) (by omega) (by omega)
    exact ⟨σ2, τ2, x1.tr x2, m1.tr m2, R2, by rw [show r + (k + 1) = r + 1 + k from by omega]; exact V2, (hs b τ τ1 i (by omega) e1).trans e3, e2.trans e4⟩
theorem carry_eq {σ τ : St} {n t g rule len N r c : Nat} (hN : 2000 ≤ N) (R : RP σ τ n t g rule len) (V : RV σ τ n r) (hr : r + c ≤ 60) {α : Type} {LM : Nat → St → Nat → α} {E : St → α} (hs : ∀ f τ τ' i, i < c → fX3_round N τ = some τ' → LM (f + 1) τ i = LM f τ' (i + 1)) (he : ∀ f τ, LM (f + 1) τ c = E τ) :
    ∃ (σ' τ' : St), xK σ σ' ∧ mK τ τ' ∧ RP σ' τ' n t g rule len ∧ RV σ' τ' n (r + c) ∧ LM N τ 0 = E τ' ∧ fX2_carryOut N σ (nI c) = some σ' :=
  rounds_gen (q82 := fun σ47 => some σ47) hN (by omega) hs he c 0 N N σ τ r R V (by omega) hr (by omega) (by omega)
/-- the width in the future; both go back -/
theorem future_eq {σ τ : St} {n t g rule len N r c : Nat} (hN : 2000 ≤ N) (R : RP σ τ n t g rule len) (V : RV σ τ n r) (hr : r + c ≤ 60) :
    ∃ (σ' τ' : St) (m : Int64), xK σ σ' ∧ mK τ τ' ∧ RP σ' τ' n t g rule len ∧ RV σ' τ' n r ∧ 0 ≤ m.toInt ∧ m.toInt ≤ 14414400000 ∧ fX2_widthInFuture N σ (nI c) = some (m, σ') ∧ fX3_widthAfter N τ (nI c) = some (m, τ') := by
  obtain ⟨σ1, τ1, x1, m1, R1, V1, e1, e2⟩ := carry_eq (LM := fun f τ i => fX3_widthAfter_7 N (fun σ18 x17 => bd2 (fX3_widthOf N σ18 (gI σ18 3)) fun r22 σ21 => lt1 (sI σ21 3 x17) fun σ23 => some (r22, σ23)) f τ (nI c) (nI r) (nI i)) (E := fun τ => bd2 (fX3_widthOf N τ (gI τ 3)) fun r22 σ21 => lt1 (sI σ21 3 (nI r)) fun σ23 => some (r22, σ23)) hN R V hr
    (fun f τ τ' i hi h => by
      show fX3_widthAfter_7b N _ (fX3_widthAfter_7 N _ f) τ (nI c) (nI r) (nI i) = _
      unfold fX3_widthAfter_7b
      rw [if_neg (nI_nge hi (by omega)), h, bd0_e, lt1_e, nI_1])
    (fun f τ => by
      show fX3_widthAfter_7b N _ (fX3_widthAfter_7 N _ f) τ (nI c) (nI r) (nI c) = _
      unfold fX3_widthAfter_7b
      rw [if_pos (nI_le (Nat.le_refl _) (by omega))])
  obtain ⟨m, w1, w2, w3, w4⟩ := width_eq hN R1 V1 (Nat.le_refl _)
  have kx := x1.tr (xK.i3 σ1 (nI r))
  have km := m1.tr (mK.i3 τ1 (nI r))
  refine ⟨_, _, m, kx, km, R.keepK kx km, V1.back (by omega), w3, w4, ?_, ?_⟩
  · unfold fX2_widthInFuture
    rw [lt1_e, e2, bd0_e, V1.1, w1, bd2_e, lt1_e, V.1]
  · unfold fX3_widthAfter
    rw [lt1_e, V.2.1]
    refine Eq.trans e1 ?_
    rw [V1.2.1, w2, bd2_e, lt1_e]
theorem run_eq {σ τ : St} {n t g rule len N r : Nat} (hN : 2000 ≤ N) (R : RP σ τ n t g rule len) (V : RV σ τ n r) (a : Int32) :
    ∃ (σ' τ' : St) (r' : Nat) (v : Int32), RP σ' τ' n t g rule len ∧ RV σ' τ' n r' ∧ fX2_run N σ a = some (v, σ') ∧ fX3_run N τ a = some (v, τ') := by
  have h60 := V.2.2.1
  unfold fX2_run fX3_run
  rw [show (1 : Int64) = (1 : Int32).toInt64 from by decide, show (60 : Int64) = (60 : Int32).toInt64 from by decide, wiW]
  rcases isW_c a 1 60 with ⟨hw, h1, h2⟩ | ⟨hw, -⟩
  · obtain ⟨c, hc1, hc2, rfl⟩ := of_rng (a := a) (lo := 1) (hi := 60) h1 h2 (by omega)
    rw [hw, bd0_e, if_neg z10, bd0_e, if_neg z10, V.1, V.2.1, nI_add]
    by_cases hl : r + c ≤ 60
    · obtain ⟨σ1, τ1, x1, m1, R1, V1, e1, e2⟩ := carry_eq (c := c) (LM := fun f τ i => fX3_run_33 N (fun σ22 => some ((gI σ22 3), σ22)) f τ (nI c) (nI i)) (E := fun τ => some ((gI τ 3), τ)) hN R V hl
        (fun f τ τ' i hi h => by
          show fX3_run_33b N _ (fX3_run_33 N _ f) τ (nI c) (nI i) = _
          unfold fX3_run_33b
          rw [if_neg (nI_nge hi (by omega)), h, bd0_e, lt1_e, nI_1])
        (fun f τ => by
          show fX3_run_33b N _ (fX3_run_33 N _ f) τ (nI c) (nI c) = _
          unfold fX3_run_33b
          rw [if_pos (nI_le (Nat.le_refl _) (by omega))])
      refine ⟨σ1, τ1, r + c, nI (r + c), R1, V1, ?_, ?_⟩
      · rw [if_pos (cR_le 60 hl (by omega)), e2, bd0_e, V1.1]
      · rw [if_pos (cR_le 60 hl (by omega))]
        refine Eq.trans e1 ?_
        rw [V1.2.1]
    · refine ⟨σ, τ, r, _, R, V, by rw [if_neg (cR_nle 60 (by omega) (by omega))], by rw [if_neg (cR_nle 60 (by omega) (by omega))]⟩
  · rw [hw, bd0_e, if_pos rfl, bd0_e, if_pos rfl]
    exact ⟨σ, τ, r, _, R, V, rfl, rfl⟩
theorem back_eq {σ τ : St} {n t g rule len r : Nat} (R : RP σ τ n t g rule len) (V : RV σ τ n r) (a : Int32) :
    ∃ (σ' τ' : St) (r' : Nat) (v : Int32), RP σ' τ' n t g rule len ∧ RV σ' τ' n r' ∧ fX2_back σ a = some (v, σ') ∧ fX3_back τ a = some (v, τ') := by
  have h60 := V.2.2.1
  unfold fX2_back fX3_back
  rw [show (0 : Int64) = (0 : Int32).toInt64 from by decide, wiW, V.1, V.2.1]
  rcases isW_c a 0 (nI r) with ⟨hw, h1, h2⟩ | ⟨hw, -⟩
  · rw [nI_toInt (by omega)] at h2
    obtain ⟨c, hc1, hc2, rfl⟩ := of_rng (a := a) (lo := 0) (hi := r) h1 h2 (by omega)
    rw [hw, bd0_e, if_neg z10, bd0_e, if_neg z10, pk_sub hc2, lt1_e, lt1_e]
    exact ⟨_, _, r - c, nI (r - c), R.keepK (xK.i3 σ _) (mK.i3 τ _), V.back (by omega), rfl, rfl⟩
  · rw [hw, bd0_e, if_pos rfl, bd0_e, if_pos rfl]
    exact ⟨σ, τ, r, _, R, V, rfl, rfl⟩
/-- whether a width is within the goal -/
def flg (a1 a2 : Int32) (g : Nat) (w : Int64) : Int32 := if (a1.toInt64 * lN g) < (w * a2.toInt64) then 0 else 1
theorem X_atMost {σ τ : St} {n t g rule len N r : Nat} {w : Int64} (R : RP σ τ n t g rule len) (V : RV σ τ n r) (hw : fX2_widthAfter N σ (nI r) = some (w, σ)) (a1 a2 : Int32) : fX2_isWidthAtMost N σ (a1.toInt64) (a2.toInt64) = some (flg a1 a2 g w, σ) := by
  obtain ⟨b1, b2, b3, b4, b4', b5, b6, b7, b8⟩ := R.B
  unfold fX2_isWidthAtMost flg
  rw [V.1, hw, bd2_e, b5, nI_l (by omega)]
  by_cases h : a1.toInt64 * lN g < w * a2.toInt64
  · rw [if_pos h, if_pos h]
  · rw [if_neg h, if_neg h]
theorem flg_01 (a1 a2 : Int32) (g : Nat) (w : Int64) : flg a1 a2 g w = 0 ∨ flg a1 a2 g w = 1 := by
  unfold flg
  by_cases h : a1.toInt64 * lN g < w * a2.toInt64
  · rw [if_pos h]; exact Or.inl rfl
  · rw [if_neg h]; exact Or.inr rfl
theorem until_loop {n t g rule len N c : Nat} {a1 a2 : Int32} (hN : 2000 ≤ N) (hc : c ≤ 60) {q40 : St → Int32 → Int32 → Int32 → Option (Int32 × St)} {q91 : St → Int32 → Int32 → Option (Int32 × St)} : ∀ (k i fX fM : Nat) (σ τ : St) (r : Nat) (w : Int64), RP σ τ n t g rule len → RV σ τ n r → i + k = c → k < fX → k < fM → fX2_widthAfter N σ (nI r) = some (w, σ) →
    ∃ (σ' τ' : St) (i' r' : Nat) (w' : Int64), i' ≤ c ∧ r ≤ r' ∧ xK σ σ' ∧ mK τ τ' ∧ RP σ' τ' n t g rule len ∧ RV σ' τ' n r' ∧ fX2_widthAfter N σ' (nI r') = some (w', σ') ∧ fX2_carryOutUntil_3 N q40 fX σ a1 a2 (nI c) (nI i) = q40 σ' a1 a2 (nI i') ∧ fX3_goTo_32 N q91 fM τ a1 a2 (nI c) (nI i) (flg a1 a2 g w) = q91 τ' (nI i') (flg a1 a2 g w') := by
  intro k
  induction k with
  | zero =>
    intro i fX fM σ τ r w R V hi hfX hfM hw
    obtain ⟨a, rfl⟩ : ∃ k, fX = k + 1 := ⟨fX - 1, by omega⟩
    obtain ⟨b, rfl⟩ : ∃ k, fM = k + 1 := ⟨fM - 1, by omega⟩
    refine ⟨σ, τ, i, r, w, by omega, Nat.le_refl _, xK.rf, mK.rf, R, V, hw, ?_, ?_⟩
    · show fX2_carryOutUntil_3b N q40 _ σ a1 a2 (nI c) (nI i) = _
      unfold fX2_carryOutUntil_3b
      rw [if_pos (nI_le (by omega) (by omega))]
    · show fX3_goTo_32b N q91 _ τ a1 a2 (nI c) (nI i) _ = _
      unfold fX3_goTo_32b
      rw [if_pos (nI_le (show c ≤ i by omega) (by omega))]
      by_cases h : flg a1 a2 g w = 0
      · rw [if_pos h]
      · rw [if_neg h]
  | succ k ih =>
    intro i fX fM σ τ r w R V hi hfX hfM hw
    have h60 := V.2.2.1
    obtain ⟨a, rfl⟩ : ∃ k, fX = k + 1 := ⟨fX - 1, by omega⟩
    obtain ⟨b, rfl⟩ : ∃ k, fM = k + 1 := ⟨fM - 1, by omega⟩
    have eX : fX2_carryOutUntil_3 N q40 (a + 1) σ a1 a2 (nI c) (nI i) = fX2_carryOutUntil_3b N q40 (fX2_carryOutUntil_3 N q40 a) σ a1 a2 (nI c) (nI i) := rfl
    have eM : fX3_goTo_32 N q91 (b + 1) τ a1 a2 (nI c) (nI i) (flg a1 a2 g w) = fX3_goTo_32b N q91 (fX3_goTo_32 N q91 b) τ a1 a2 (nI c) (nI i) (flg a1 a2 g w) := rfl
    unfold fX2_carryOutUntil_3b at eX
    unfold fX3_goTo_32b at eM
    rw [if_neg (nI_nge (by omega) (by omega)), V.1] at eX
    rw [if_neg (nI_nge (show i < c by omega) (by omega)), V.2.1] at eM
    by_cases hr : r < 60
    · rw [if_neg (cL_nle 60 hr (by omega)), X_atMost R V hw, bd2_e] at eX
      rw [if_neg (cL_nle 60 hr (by omega))] at eM
      by_cases hf : flg a1 a2 g w = 0
      · rw [if_pos hf] at eX eM
        obtain ⟨σ1, τ1, x1, m1, R1, V1, e1, e2⟩ := carry_eq (c := 1) (LM := fun f τ i => if i = 1 then some τ else fX3_round N τ) (E := fun τ => some τ) hN R V (by omega)
          (fun f τ τ' i hi h => by
            have : i = 0 := by omega
            subst this
            rw [if_neg (by decide), if_pos rfl, h])
          (fun f τ => if_pos rfl)
        have e1 : fX3_round N τ = some τ1 := e1
        rw [show (1 : Int32) = nI 1 from rfl, e2, bd0_e, lt1_e, nI_add] at eX
        obtain ⟨w1, u1, u2, -, -⟩ := width_eq hN R1 V1 (Nat.le_refl _)
        obtain ⟨σ2, τ2, i2, r2, w2, g1, g2, g3, g4, g5, g6, g7, g8, g9⟩ := ih (i + 1) a b σ1 τ1 (r + 1) w1 R1 V1 (by omega) (by omega) (by omega) u1
        refine ⟨σ2, τ2, i2, r2, w2, g1, by omega, x1.tr g3, m1.tr g4, g5, g6, g7, eX.trans g8, ?_⟩
        rw [e1, bd0_e, lt1_e, nI_1, V1.2.1, u2, bd2_e, show gJ τ1 0 = lN g from R1.B.2.2.2.2.2.2.1] at eM
        refine Eq.trans eM (Eq.trans ?_ g9)
        unfold flg
        by_cases h : a1.toInt64 * lN g < w1 * a2.toInt64
        · rw [if_pos h, if_pos h]
        · rw [if_neg h, if_neg h]
      · rw [if_neg hf] at eX eM
        exact ⟨σ, τ, i, r, w, by omega, Nat.le_refl _, xK.rf, mK.rf, R, V, hw, eX, eM⟩
    · rw [if_pos (cL_le 60 (by omega) (by omega))] at eX
      rw [if_pos (cL_le 60 (by omega) (by omega))] at eM
      refine ⟨σ, τ, i, r, w, by omega, Nat.le_refl _, xK.rf, mK.rf, R, V, hw, eX, eM.trans ?_⟩
      by_cases h : flg a1 a2 g w = 0
      · rw [if_pos h]
      · rw [if_neg h]
theorem until_eq {σ τ : St} {n t g rule len N r c : Nat} {a1 a2 : Int32} (hN : 2000 ≤ N) (R : RP σ τ n t g rule len) (V : RV σ τ n r) (hc : c ≤ 60) :
    ∃ (σ' τ' : St) (i' r' : Nat) (b : Bool), i' ≤ c ∧ r ≤ r' ∧ xK σ σ' ∧ mK τ τ' ∧ RP σ' τ' n t g rule len ∧ RV σ' τ' n r' ∧ fX2_carryOutUntil N σ a1 a2 (nI c) = some (if b = true then nI i' else -1005, σ') ∧ fX3_goTo N τ a1 a2 (nI c) = some (if b = true then nI i' else -1, τ') := by
  obtain ⟨w, u1, u2, -, -⟩ := width_eq hN R V (Nat.le_refl _)
  obtain ⟨σ2, τ2, i2, r2, w2, g1, g2, g3, g4, g5, g6, g7, g8, g9⟩ := until_loop (a1 := a1) (a2 := a2) (q40 := fun σ30 x27 x28 x29 => bd2 (fX2_isWidthAtMost N σ30 (x27.toInt64) (x28.toInt64)) fun r34 σ33 => if r34 = (0 : Int32) then (some ((-1005 : Int32), σ33)) else (some (x29, σ33))) (q91 := fun σ46 x44 x45 => if x45 = (0 : Int32) then (some ((-1 : Int32), σ46)) else (some (x44, σ46))) hN hc c 0 N N σ τ r w R V (by omega) (by omega) (by omega) u1
  refine ⟨σ2, τ2, i2, r2, decide (¬ flg a1 a2 g w2 = 0), g1, g2, g3, g4, g5, g6, ?_, ?_⟩
  · unfold fX2_carryOutUntil
    refine Eq.trans g8 ?_
    rw [X_atMost g5 g6 g7, bd2_e]
    by_cases h : flg a1 a2 g w2 = 0
    · rw [if_pos h, if_neg (by rw [h]; decide)]
    · rw [if_neg h, if_pos (decide_eq_true h)]
  · have e : fX3_goTo N τ a1 a2 (nI c) = fX3_goTo_30 N τ a1 a2 (nI c) (0 : Int32) (flg a1 a2 g w) := by
      unfold fX3_goTo flg
      rw [V.2.1, u2, bd2_e, show gJ τ 0 = lN g from R.B.2.2.2.2.2.2.1]
      by_cases h : a1.toInt64 * lN g < w * a2.toInt64
      · rw [if_pos h, if_pos h]
      · rw [if_neg h, if_neg h]
    rw [e]
    unfold fX3_goTo_30
    refine Eq.trans g9 ?_
    by_cases h : flg a1 a2 g w2 = 0
    · rw [if_pos h, if_neg (by rw [h]; decide)]
    · rw [if_neg h, if_pos (decide_eq_true h)]
theorem goal_eq (a1 a2 a3 : Int32) : ∃ v, fX2_isWidthGoal a1 a2 a3 = some v ∧ fX3_isGoal a1 a2 a3 = some v ∧ (v = 0 ∨ v = 1 ∧ ∃ c : Nat, c ≤ 60 ∧ a3 = nI c) := by
  unfold fX2_isWidthGoal fX3_isGoal
  rw [show (0 : Int64) = (0 : Int32).toInt64 from by decide, show (1000 : Int64) = (1000 : Int32).toInt64 from by decide, show (1 : Int64) = (1 : Int32).toInt64 from by decide, show (60 : Int64) = (60 : Int32).toInt64 from by decide, wiW, wiW, wiW]
  rcases isW_c a1 0 1000 with ⟨hw, -, -⟩ | ⟨hw, -⟩
  · rw [hw, bd0_e, if_neg z10]
    rcases isW_c a2 1 1000 with ⟨hw, -, -⟩ | ⟨hw, -⟩
    · rw [hw, bd0_e, if_neg z10]
      rcases isW_c a3 0 60 with ⟨hw, h1, h2⟩ | ⟨hw, -⟩
      · rw [hw, bd0_e, if_neg z10]
        obtain ⟨c, -, h3, h4⟩ := of_rng (a := a3) (lo := 0) (hi := 60) h1 h2 (by omega)
        exact ⟨1, rfl, rfl, Or.inr ⟨rfl, c, h3, h4⟩⟩
      · rw [hw, bd0_e, if_pos rfl]
        exact ⟨0, rfl, rfl, Or.inl rfl⟩
    · rw [hw, bd0_e, if_pos rfl]
      exact ⟨0, rfl, rfl, Or.inl rfl⟩
  · rw [hw, bd0_e, if_pos rfl]
    exact ⟨0, rfl, rfl, Or.inl rfl⟩
theorem nI_n1005 {f : Nat} (h : f ≤ 60) : ¬ nI f = (-1005 : Int32) := fun q => by
  have := congrArg Int32.toInt q
  rw [nI_toInt (by omega)] at this
  have h : (-1005 : Int32).toInt = -1005 := rfl
  omega
theorem runTo_eq {σ τ : St} {n t g rule len N r : Nat} (hN : 2000 ≤ N) (R : RP σ τ n t g rule len) (V : RV σ τ n r) (a1 a2 a3 : Int32) :
    ∃ (σ' τ' : St) (r' : Nat) (v : Int32), RP σ' τ' n t g rule len ∧ RV σ' τ' n r' ∧ fX2_runTo N σ a1 a2 a3 = some (v, σ') ∧ fX3_runTo N τ a1 a2 a3 = some (v, τ') := by
  unfold fX2_runTo fX3_runTo
  obtain ⟨v, e1, e2, rfl | ⟨rfl, c, hc, rfl⟩⟩ := goal_eq a1 a2 a3
  · rw [e1, e2, bd0_e, bd0_e, if_pos rfl, if_pos rfl]
    exact ⟨σ, τ, r, _, R, V, rfl, rfl⟩
  · rw [e1, e2, bd0_e, bd0_e, if_neg z10, if_neg z10, lt1_e, lt1_e]
    obtain ⟨σ2, τ2, i2, r2, b, g1, g2, g3, g4, g5, g6, g7, g8⟩ := until_eq (a1 := a1) (a2 := a2) hN R V hc
    rw [g7, g8, bd2_e, bd2_e, V.1, V.2.1]
    cases b with
    | true =>
      rw [if_pos rfl, if_pos rfl, if_neg (nI_n1005 (by omega)), if_pos (nI_pos' (by omega)), lt1_e, if_pos (nI_pos' (by omega)), g6.2.1]
      exact ⟨σ2, sI τ2 3 (nI r2), r2, nI i2, g5.keepK xK.rf (mK.i3 τ2 _), ⟨g6.1, rfl, g6.2.2.1, g6.2.2.2⟩, rfl, rfl⟩
    | false =>
      rw [if_neg Bool.false_ne_true, if_neg Bool.false_ne_true, if_pos rfl, if_neg (show ¬ (0 : Int32) ≤ -1 from by decide), lt1_e, lt1_e, if_neg (show ¬ (0 : Int32) ≤ -1 from by decide)]
      exact ⟨sI σ2 3 (nI r), sI τ2 3 (nI r), r, _, g5.keepK (xK.i3 σ2 _) (mK.i3 τ2 _), g6.back g2, rfl, rfl⟩
theorem roundsTo_eq {σ τ : St} {n t g rule len N r : Nat} (hN : 2000 ≤ N) (R : RP σ τ n t g rule len) (V : RV σ τ n r) (a1 a2 a3 : Int32) :
    ∃ (σ' τ' : St) (v : Int32), xK σ σ' ∧ mK τ τ' ∧ RP σ' τ' n t g rule len ∧ RV σ' τ' n r ∧ fX2_roundsTo N σ a1 a2 a3 = some (v, σ') ∧ fX3_roundsTo N τ a1 a2 a3 = some (v, τ') := by
  unfold fX2_roundsTo fX3_roundsTo
  obtain ⟨v, e1, e2, rfl | ⟨rfl, c, hc, rfl⟩⟩ := goal_eq a1 a2 a3
  · rw [e1, e2, bd0_e, bd0_e, if_pos rfl, if_pos rfl]
    exact ⟨σ, τ, _, xK.rf, mK.rf, R, V, rfl, rfl⟩
  · rw [e1, e2, bd0_e, bd0_e, if_neg z10, if_neg z10, lt1_e, lt1_e]
    obtain ⟨σ2, τ2, i2, r2, b, g1, g2, g3, g4, g5, g6, g7, g8⟩ := until_eq (a1 := a1) (a2 := a2) hN R V hc
    rw [g7, g8, bd2_e, bd2_e, V.1, V.2.1, lt1_e, lt1_e]
    have kx := g3.tr (xK.i3 σ2 (nI r))
    have km := g4.tr (mK.i3 τ2 (nI r))
    cases b with
    | true =>
      rw [if_pos rfl, if_pos rfl, if_pos (nI_pos' (by omega))]
      exact ⟨_, _, nI i2, kx, km, R.keepK kx km, g6.back g2, rfl, rfl⟩
    | false =>
      rw [if_neg Bool.false_ne_true, if_neg Bool.false_ne_true, if_neg (show ¬ (0 : Int32) ≤ -1 from by decide)]
      exact ⟨_, _, _, kx, km, R.keepK kx km, g6.back g2, rfl, rfl⟩
