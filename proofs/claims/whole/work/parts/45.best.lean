/-! the worst strategy, the best rule -/
theorem RP.rule {σ τ : St} {n t g rule len s : Nat} (R : RP σ τ n t g rule len) (h : s ≤ 3) : RP (sI σ 4 (nI s)) (sI τ 2 (nI s)) n t g s len :=
  ⟨R.B, R.xn, R.mn, R.n2, R.n10, R.xt, R.mt, R.t3, rfl, rfl, h, R.ms, R.s5, R.md, R.d3, R.dd, R.ma, R.ml, R.mi, R.bi⟩
theorem RV.rule {σ τ : St} {n r : Nat} (V : RV σ τ n r) (v : Int32) : RV (sI σ 4 v) (sI τ 2 v) n r := V
theorem RP.strat {σ τ : St} {n t g rule len s p : Nat} (R : RP σ τ n t g rule len) (hf : ¬ gF σ 2 p = 0) (h5 : s ≤ 5) : RP (sF σ 2 (upd (gF σ 2) p (nI s))) (sF τ 0 (upd (gF τ 0) p (nI s))) n t g rule len := by
  refine ⟨R.B, R.xn, R.mn, R.n2, R.n10, R.xt, R.mt, R.t3, R.xr, R.mr, R.r3, ?_, ?_, R.md, R.d3, R.dd, ?_, R.ml, R.mi, R.bi⟩
  · intro j hj
    show upd (gF τ 0) p (nI s) j = upd (gF σ 2) p (nI s) j
    by_cases e : j = p
    · subst e; rw [pk_us, pk_us]
    · rw [pk_un e, pk_un e]; exact R.ms j hj
  · intro j hj
    show ∃ s' : Nat, s' ≤ 5 ∧ upd (gF σ 2) p (nI s) j = nI s'
    by_cases e : j = p
    · subst e; rw [pk_us]; exact ⟨s, h5, rfl⟩
    · rw [pk_un e]; exact R.s5 j hj
  · intro j hj hz
    have hz : ¬ upd (gF σ 2) p (nI s) j = 0 := hz
    by_cases e : j = p
    · subst e; exact R.ma j hj hf
    · rw [pk_un e] at hz; exact R.ma j hj hz
theorem RV.strat {σ τ : St} {n r p s : Nat} (V : RV σ τ n r) (h1 : 1 ≤ s) (h5 : s ≤ 5) : RV (sF σ 2 (upd (gF σ 2) p (nI s))) (sF τ 0 (upd (gF τ 0) p (nI s))) n r := by
  refine ⟨V.1, V.2.1, V.2.2.1, fun k j s' hk hj hs hc => ?_⟩
  have hc : upd (gF σ 2) p (nI s) j = 0 := hc
  by_cases e : j = p
  · subst e
    rw [pk_us] at hc
    exact absurd hc (nI_ne0 (by omega) (by omega))
  · rw [pk_un e] at hc
    exact V.2.2.2 k j s' hk hj hs hc
theorem worst_step {σ τ : St} {n t g rule len N r p c i : Nat} (hN : 2000 ≤ N) (R : RP σ τ n t g rule len) (V : RV σ τ n r) (hp : p < 10) (hf : ¬ gF σ 2 p = 0) (hr : r + c ≤ 60) (h1 : 1 ≤ i) (h5 : i ≤ 5) {q114 q135 : St → Int32 → Int32 → Int32 → Option (Int32 × St)} (x bX bM : Int32) (w : Int64) :
    ∃ (σ' τ' : St) (m : Int64), RP σ' τ' n t g rule len ∧ RV σ' τ' n r ∧ ¬ gF σ' 2 p = 0 ∧ 0 ≤ m.toInt ∧ (∀ f, fX2_worstStrategy_71 N q114 (f + 1) σ (nI p) (nI c) x bX w (nI i) = fX2_worstStrategy_71 N q114 f σ' (nI p) (nI c) x (if m ≤ w then bX else nI i) (if m ≤ w then w else m) (nI (i + 1))) ∧ (∀ f, fX3_worstStrategy_73 N q135 (f + 1) τ (nI p) (nI c) x bM w (nI i) = fX3_worstStrategy_73 N q135 f τ' (nI p) (nI c) x (if m ≤ w then bM else nI i) (if m ≤ w then w else m) (nI (i + 1))) := by
  obtain ⟨σ1, τ1, m, x1, m1, R1, V1, w1, w2, e1, e2⟩ := future_eq (c := c) hN (R.strat hf h5) (V.strat (p := p) h1 h5) hr
  refine ⟨σ1, τ1, m, R1, V1, ?_, w1, fun f => ?_, fun f => ?_⟩
  · rw [x1.2.2.1]
    show ¬ upd (gF σ 2) p (nI i) p = 0
    rw [pk_us]
    exact nI_ne0 (by omega) (by omega)
  · show fX2_worstStrategy_71b N q114 (fX2_worstStrategy_71 N q114 f) σ (nI p) (nI c) x bX w (nI i) = _
    unfold fX2_worstStrategy_71b
    rw [if_neg (cL_nlt 5 h5 (by omega)), if_neg (nI_in (by omega) (by omega)), nI_clamp (by omega), lt1_e, e1, bd2_e, lt1_e, lt1_e, nI_1]
    by_cases h : m ≤ w
    · rw [if_pos h, if_pos h, if_pos h]
    · rw [if_neg h, if_neg h, if_neg h]
  · show fX3_worstStrategy_73b N q135 (fX3_worstStrategy_73 N q135 f) τ (nI p) (nI c) x bM w (nI i) = _
    unfold fX3_worstStrategy_73b
    rw [if_neg (cL_nle 6 (by omega) (by omega)), if_neg (nI_in (by omega) (by omega)), nI_clamp (by omega), lt1_e, e2, bd2_e]
    by_cases h : m ≤ w
    · rw [if_pos h, if_pos h, if_pos h, if_pos h, lt1_e, nI_1]
    · rw [if_neg h, if_neg h, if_neg h, if_neg h, lt1_e, nI_1]
theorem worst_loop {n t g rule len N r p c : Nat} (hN : 2000 ≤ N) (hp : p < 10) (hr : r + c ≤ 60) {q114 q135 : St → Int32 → Int32 → Int32 → Option (Int32 × St)} (x : Int32) : ∀ (k i fX fM : Nat) (σ τ : St) (b : Int32) (w : Int64), RP σ τ n t g rule len → RV σ τ n r → ¬ gF σ 2 p = 0 → 1 ≤ i → i + k = 6 → k < fX → k < fM →
    ∃ (σ' τ' : St) (b' : Int32), RP σ' τ' n t g rule len ∧ RV σ' τ' n r ∧ ¬ gF σ' 2 p = 0 ∧ fX2_worstStrategy_71 N q114 fX σ (nI p) (nI c) x b w (nI i) = q114 σ' (nI p) x b' ∧ fX3_worstStrategy_73 N q135 fM τ (nI p) (nI c) x b w (nI i) = q135 τ' (nI p) x b' := by
  intro k
  induction k with
  | zero =>
    intro i fX fM σ τ b w R V hf h1 hi hfX hfM
    obtain ⟨a, rfl⟩ : ∃ k, fX = k + 1 := ⟨fX - 1, by omega⟩
    obtain ⟨d, rfl⟩ : ∃ k, fM = k + 1 := ⟨fM - 1, by omega⟩
    have hi : i = 6 := by omega
    subst hi
    refine ⟨σ, τ, b, R, V, hf, ?_, ?_⟩
    · show fX2_worstStrategy_71b N q114 _ σ (nI p) (nI c) x b w (nI 6) = _
      unfold fX2_worstStrategy_71b
      rw [if_pos (cL_lt 5 (by omega) (by omega))]
    · show fX3_worstStrategy_73b N q135 _ τ (nI p) (nI c) x b w (nI 6) = _
      unfold fX3_worstStrategy_73b
      rw [if_pos (cL_le 6 (by omega) (by omega))]
  | succ k ih =>
    intro i fX fM σ τ b w R V hf h1 hi hfX hfM
    obtain ⟨a, rfl⟩ : ∃ k, fX = k + 1 := ⟨fX - 1, by omega⟩
    obtain ⟨d, rfl⟩ : ∃ k, fM = k + 1 := ⟨fM - 1, by omega⟩
    obtain ⟨σ1, τ1, m, R1, V1, f1, m1, e1, e2⟩ := worst_step (i := i) (q114 := q114) (q135 := q135) hN R V hp hf hr h1 (by omega) x b b w
    obtain ⟨σ2, τ2, b2, g1, g2, g3, g4, g5⟩ := ih (i + 1) a d σ1 τ1 (if m ≤ w then b else nI i) (if m ≤ w then w else m) R1 V1 f1 (by omega) (by omega) (by omega) (by omega)
    exact ⟨σ2, τ2, b2, g1, g2, g3, (e1 a).trans g4, (e2 d).trans g5⟩
theorem worst_eq {σ τ : St} {n t g rule len N r : Nat} (hN : 2000 ≤ N) (R : RP σ τ n t g rule len) (V : RV σ τ n r) (a1 a2 : Int32) :
    ∃ (σ' τ' : St) (v : Int32), RP σ' τ' n t g rule len ∧ RV σ' τ' n r ∧ fX2_worstStrategy N σ a1 a2 = some (v, σ') ∧ fX3_worstStrategy N τ a1 a2 = some (v, τ') := by
  have h10 := R.n10
  have h60 := V.2.2.1
  unfold fX2_worstStrategy fX3_worstStrategy
  rcases nodeC a1 (show n < 2147483648 by omega) with ⟨p, hp, rfl⟩ | hout
  · rw [X_isNode R.xn hp h10, M_noNode R.mn hp h10, bd2_e, bd2_e, if_neg z10, if_pos rfl, show (1 : Int64) = (1 : Int32).toInt64 from by decide, show (10 : Int64) = (10 : Int32).toInt64 from by decide, wiW]
    rcases isW_c a2 1 10 with ⟨hw, h1, h2⟩ | ⟨hw, -⟩
    · obtain ⟨c, hc1, hc2, rfl⟩ := of_rng (a := a2) (lo := 1) (hi := 10) h1 h2 (by omega)
      rw [hw, bd0_e, bd0_e, if_neg z10, if_neg z10, X_isCorrect R.xn hp h10, M_isCorrect R hp, bd2_e, bd2_e]
      by_cases hc : cor σ p = true
      · rw [if_pos hc, if_neg z10, if_neg z10]
        exact ⟨σ, τ, _, R, V, rfl, rfl⟩
      · rw [if_neg hc, if_pos rfl, if_pos rfl, V.1, V.2.1, nI_add]
        by_cases hl : r + c ≤ 60
        · have hf : ¬ gF σ 2 p = 0 := fun z => hc (cor_t.mpr z)
          rw [if_pos (cR_le 60 hl (by omega)), if_pos (cR_le 60 hl (by omega)), if_neg (nI_in (by omega) (by omega)), if_neg (nI_in (by omega) (by omega)), nI_clamp (by omega), lt1_e, lt1_e, R.ms p (by omega)]
          obtain ⟨s0, hs0, hs0'⟩ := R.s5 p (by omega)
          have hs1 : 1 ≤ s0 := by
            by_cases z : s0 = 0
            · subst z; exact absurd hs0' hf
            · omega
          rw [hs0']
          obtain ⟨N1, rfl⟩ : ∃ f, N = f + 1 := ⟨N - 1, by omega⟩
          obtain ⟨σ1, τ1, m, R1, V1, f1, m1, e1, e2⟩ := worst_step (i := 1) (q114 := fun σ56 x53 x54 x55 => if (x53 < 0 ∨ 10 ≤ (x53).toNatClampNeg) then none else lt1 (sF σ56 2 (upd (gF σ56 2) (x53).toNatClampNeg x54)) fun σ60 => some (x55, σ60)) (q135 := fun σ66 x63 x64 x65 => if (x63 < 0 ∨ 10 ≤ (x63).toNatClampNeg) then none else lt1 (sF σ66 0 (upd (gF σ66 0) (x63).toNatClampNeg x64)) fun σ70 => some (x65, σ70)) hN R V (show p < 10 by omega) hf hl (Nat.le_refl _) (by omega) (nI s0) 1 0 (-1)
          have hm : ¬ m ≤ (-1 : Int64) := fun z => by
            rw [fa_le64] at z
            have : (-1 : Int64).toInt = -1 := rfl
            omega
          obtain ⟨σ2, τ2, b2, g1, g2, g3, g4, g5⟩ := worst_loop (q114 := fun σ56 x53 x54 x55 => if (x53 < 0 ∨ 10 ≤ (x53).toNatClampNeg) then none else lt1 (sF σ56 2 (upd (gF σ56 2) (x53).toNatClampNeg x54)) fun σ60 => some (x55, σ60)) (q135 := fun σ66 x63 x64 x65 => if (x63 < 0 ∨ 10 ≤ (x63).toNatClampNeg) then none else lt1 (sF σ66 0 (upd (gF σ66 0) (x63).toNatClampNeg x64)) fun σ70 => some (x65, σ70)) hN (show p < 10 by omega) hl (nI s0) 4 2 N1 N1 σ1 τ1 (nI 1) m R1 V1 f1 (by omega) (by omega) (by omega) (by omega)
          refine ⟨_, _, b2, g1.strat g3 hs0, g2.strat (p := p) hs1 hs0, ?_, ?_⟩
          · refine Eq.trans (e1 N1) ?_
            rw [if_neg hm, if_neg hm]
            refine Eq.trans g4 ?_
            rw [if_neg (nI_in (by omega) (by omega)), nI_clamp (by omega), lt1_e]
          · refine Eq.trans (e2 N1) ?_
            rw [if_neg hm, if_neg hm]
            refine Eq.trans g5 ?_
            rw [if_neg (nI_in (by omega) (by omega)), nI_clamp (by omega), lt1_e]
        · rw [if_neg (cR_nle 60 (by omega) (by omega)), if_neg (cR_nle 60 (by omega) (by omega))]
          exact ⟨σ, τ, _, R, V, rfl, rfl⟩
    · rw [hw, bd0_e, bd0_e, if_pos rfl, if_pos rfl]
      exact ⟨σ, τ, _, R, V, rfl, rfl⟩
  · rw [X_isNode_out R.xn hout, M_noNode_out R.mn hout R.n2 h10, bd2_e, bd2_e, if_pos rfl, if_neg z10]
    exact ⟨σ, τ, _, R, V, rfl, rfl⟩
/-! the best rule -/
theorem rule_step {σ τ : St} {n t g rule len N r c i : Nat} (hN : 2000 ≤ N) (R : RP σ τ n t g rule len) (V : RV σ τ n r) (hr : r + c ≤ 60) (h3 : i ≤ 3) {q87 q111 : St → Int32 → Int32 → Option (Int32 × St)} (x b : Int32) (w : Int64) :
    ∃ (σ' τ' : St) (b' : Int32) (w' : Int64), RP σ' τ' n t g i len ∧ RV σ' τ' n r ∧ (∀ f, fX2_bestRule_42 N q87 (f + 1) σ (nI c) x b w (nI i) = fX2_bestRule_42 N q87 f σ' (nI c) x b' w' (nI (i + 1))) ∧ (∀ f, fX3_bestRule_44 N q111 (f + 1) τ (nI c) x b w (nI i) = fX3_bestRule_44 N q111 f τ' (nI c) x b' w' (nI (i + 1))) := by
  obtain ⟨σ1, τ1, m, x1, m1, R1, V1, w1, w2, e1, e2⟩ := future_eq (c := c) hN (R.rule h3) (V.rule (nI i)) hr
  by_cases hi : i = 0
  · subst hi
    refine ⟨σ1, τ1, nI 0, m, R1, V1, fun f => ?_, fun f => ?_⟩
    · show fX2_bestRule_42b N q87 (fX2_bestRule_42 N q87 f) σ (nI c) x b w (nI 0) = _
      unfold fX2_bestRule_42b
      rw [if_neg (cL_nlt 3 (by omega) (by omega)), lt1_e, e1, bd2_e, if_pos (show nI 0 = 0 from rfl), lt1_e, nI_1]
    · show fX3_bestRule_44b N q111 (fX3_bestRule_44 N q111 f) τ (nI c) x b w (nI 0) = _
      unfold fX3_bestRule_44b fX3_bestRule_76
      rw [if_neg (cL_nle 4 (by omega) (by omega)), lt1_e, e2, bd2_e, if_pos (show nI 0 = 0 from rfl), if_pos (show nI 0 = 0 from rfl), lt1_e, nI_1]
  · refine ⟨σ1, τ1, if w ≤ m then b else nI i, if w ≤ m then w else m, R1, V1, fun f => ?_, fun f => ?_⟩
    · show fX2_bestRule_42b N q87 (fX2_bestRule_42 N q87 f) σ (nI c) x b w (nI i) = _
      unfold fX2_bestRule_42b
      rw [if_neg (cL_nlt 3 (by omega) (by omega)), lt1_e, e1, bd2_e, if_neg (cR_ne 0 hi (by omega) (by omega))]
      by_cases h : w ≤ m
      · rw [if_pos h, if_pos h, if_pos h, lt1_e, nI_1]
      · rw [if_neg h, if_neg h, if_neg h, lt1_e, nI_1]
    · show fX3_bestRule_44b N q111 (fX3_bestRule_44 N q111 f) τ (nI c) x b w (nI i) = _
      unfold fX3_bestRule_44b fX3_bestRule_76
      rw [if_neg (cL_nle 4 (by omega) (by omega)), lt1_e, e2, bd2_e, if_neg (cR_ne 0 hi (by omega) (by omega))]
      by_cases h : w ≤ m
      · rw [if_pos h, if_neg (cR_ne 0 hi (by omega) (by omega)), if_pos h, if_pos h, if_pos h, lt1_e, nI_1]
      · rw [if_neg h, if_neg (cR_ne 0 hi (by omega) (by omega)), if_neg h, if_neg h, if_neg h, lt1_e, nI_1]
theorem rule_loop {n t g len N r c : Nat} (hN : 2000 ≤ N) (hr : r + c ≤ 60) {q87 q111 : St → Int32 → Int32 → Option (Int32 × St)} (x : Int32) : ∀ (k i fX fM rule : Nat) (σ τ : St) (b : Int32) (w : Int64), RP σ τ n t g rule len → RV σ τ n r → i + k = 4 → k < fX → k < fM →
    ∃ (σ' τ' : St) (b' : Int32) (rule' : Nat), RP σ' τ' n t g rule' len ∧ RV σ' τ' n r ∧ fX2_bestRule_42 N q87 fX σ (nI c) x b w (nI i) = q87 σ' x b' ∧ fX3_bestRule_44 N q111 fM τ (nI c) x b w (nI i) = q111 τ' x b' := by
  intro k
  induction k with
  | zero =>
    intro i fX fM rule σ τ b w R V hi hfX hfM
    obtain ⟨a, rfl⟩ : ∃ k, fX = k + 1 := ⟨fX - 1, by omega⟩
    obtain ⟨d, rfl⟩ : ∃ k, fM = k + 1 := ⟨fM - 1, by omega⟩
    have hi : i = 4 := by omega
    subst hi
    refine ⟨σ, τ, b, rule, R, V, ?_, ?_⟩
    · show fX2_bestRule_42b N q87 _ σ (nI c) x b w (nI 4) = _
      unfold fX2_bestRule_42b
      rw [if_pos (cL_lt 3 (by omega) (by omega))]
    · show fX3_bestRule_44b N q111 _ τ (nI c) x b w (nI 4) = _
      unfold fX3_bestRule_44b
      rw [if_pos (cL_le 4 (by omega) (by omega))]
  | succ k ih =>
    intro i fX fM rule σ τ b w R V hi hfX hfM
    obtain ⟨a, rfl⟩ : ∃ k, fX = k + 1 := ⟨fX - 1, by omega⟩
    obtain ⟨d, rfl⟩ : ∃ k, fM = k + 1 := ⟨fM - 1, by omega⟩
    obtain ⟨σ1, τ1, b1, w1, R1, V1, e1, e2⟩ := rule_step (i := i) (q87 := q87) (q111 := q111) hN R V hr (by omega) x b w
    obtain ⟨σ2, τ2, b2, rule2, g1, g2, g4, g5⟩ := ih (i + 1) a d i σ1 τ1 b1 w1 R1 V1 (by omega) (by omega) (by omega)
    exact ⟨σ2, τ2, b2, rule2, g1, g2, (e1 a).trans g4, (e2 d).trans g5⟩
theorem best_eq {σ τ : St} {n t g rule len N r : Nat} (hN : 2000 ≤ N) (R : RP σ τ n t g rule len) (V : RV σ τ n r) (a : Int32) :
    ∃ (σ' τ' : St) (v : Int32), RP σ' τ' n t g rule len ∧ RV σ' τ' n r ∧ fX2_bestRule N σ a = some (v, σ') ∧ fX3_bestRule N τ a = some (v, τ') := by
  have h60 := V.2.2.1
  unfold fX2_bestRule fX3_bestRule
  rw [show (1 : Int64) = (1 : Int32).toInt64 from by decide, show (10 : Int64) = (10 : Int32).toInt64 from by decide, wiW]
  rcases isW_c a 1 10 with ⟨hw, h1, h2⟩ | ⟨hw, -⟩
  · obtain ⟨c, hc1, hc2, rfl⟩ := of_rng (a := a) (lo := 1) (hi := 10) h1 h2 (by omega)
    rw [hw, bd0_e, bd0_e, if_neg z10, if_neg z10, V.1, V.2.1, nI_add]
    by_cases hl : r + c ≤ 60
    · rw [if_pos (cR_le 60 hl (by omega)), if_pos (cR_le 60 hl (by omega)), lt1_e, lt1_e, R.xr, R.mr]
      obtain ⟨σ2, τ2, b2, rule2, g1, g2, g4, g5⟩ := rule_loop (q87 := fun σ42 x40 x41 => lt1 (sI σ42 4 x40) fun σ44 => some (x41, σ44)) (q111 := fun σ67 x65 x66 => lt1 (sI σ67 2 x65) fun σ69 => some (x66, σ69)) hN hl (nI rule) 4 0 N N rule σ τ 0 0 R V (by omega) (by omega) (by omega)
      refine ⟨_, _, b2, g1.rule R.r3, g2.rule (nI rule), ?_, ?_⟩
      · refine Eq.trans g4 ?_
        rw [lt1_e]
      · refine Eq.trans g5 ?_
        rw [lt1_e]
    · rw [if_neg (cR_nle 60 (by omega) (by omega)), if_neg (cR_nle 60 (by omega) (by omega))]
      exact ⟨σ, τ, _, R, V, rfl, rfl⟩
  · rw [hw, bd0_e, bd0_e, if_pos rfl, if_pos rfl]
    exact ⟨σ, τ, _, R, V, rfl, rfl⟩
