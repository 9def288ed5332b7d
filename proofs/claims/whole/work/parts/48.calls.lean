/-! the calls that change nodes, links, the rule; and those that only answer -/
theorem Rl.i {σ τ : St} {n t g rule len r : Nat} (R : RP σ τ n t g rule len) (V : RV σ τ n r) : Rl σ τ := ⟨n, t, g, rule, len, r, R, V⟩
theorem ok_setFaulty {σ τ : St} (H : Rl σ τ) (a1 a2 a3 a4 : Int32) : Ok (fX2_setFaulty σ a1 a2 a3 a4) (fX3_setFaulty τ a1 a2 a3 a4) := by
  have H0 := H
  obtain ⟨n, t, g, rule, len, r, R, V⟩ := H
  have h10 := R.n10
  have h60 := V.2.2.1
  obtain ⟨b1, b2, b3, b4, b4', b5, b6, b7, b8⟩ := R.B
  unfold fX2_setFaulty fX3_setFaulty
  rcases nodeC a1 (show n < 2147483648 by omega) with ⟨p, hp, rfl⟩ | hout
  · rw [X_isNode R.xn hp h10, M_noNode R.mn hp h10, bd2_e, bd2_e, if_neg z10, if_pos rfl, show (1 : Int64) = (1 : Int32).toInt64 from by decide, show (5 : Int64) = (5 : Int32).toInt64 from by decide, show (-1000 : Int64) = (-1000 : Int32).toInt64 from by decide, show (1000 : Int64) = (1000 : Int32).toInt64 from by decide, wiW, wiW, wiW]
    rcases isW_c a2 1 5 with ⟨hw, h1, h2⟩ | ⟨hw, -⟩
    · obtain ⟨s, hs1, hs2, rfl⟩ := of_rng (a := a2) (lo := 1) (hi := 5) h1 h2 (by omega)
      rw [hw, bd0_e, bd0_e, if_neg z10, if_neg z10]
      rcases isW_c a3 (-1000) 1000 with ⟨hw, -, -⟩ | ⟨hw, -⟩
      · rw [hw, bd0_e, bd0_e, if_neg z10, if_neg z10]
        rcases isW_c a4 1 1000 with ⟨hw, h1, h2⟩ | ⟨hw, -⟩
        · obtain ⟨k, hk1, hk2, rfl⟩ := of_rng (a := a4) (lo := 1) (hi := 1000) h1 h2 (by omega)
          rw [hw, bd0_e, bd0_e, if_neg z10, if_neg z10, nI_l (by omega), b5, b6, nI_l (by omega), if_neg (show ¬ lN k = 0 from dR_ne 0 (by omega) (by omega) (by omega))]
          unfold fX2_isOnGrid
          rw [if_neg (show ¬ lN k ≤ 0 from dR_nle 0 (by omega) (by omega)), if_neg (show ¬ lN k = 0 from dR_ne 0 (by omega) (by omega) (by omega))]
          by_cases hz : a3.toInt64 * lN g - a3.toInt64 * lN g / lN k * lN k = 0
          · rw [if_pos hz, bd0_e, if_neg z10, if_pos hz, V.1, V.2.1]
            by_cases hr : r = 0
            · subst hr
              unfold fX2_inUnits
              rw [if_pos (show nI 0 = 0 from rfl), if_pos (show nI 0 ≤ 0 from by decide), if_neg (nI_in (by omega) (by omega)), if_neg (nI_in (by omega) (by omega)), lt1_e, lt1_e, if_neg (nI_in (by omega) (by omega)), lt1_e, lt1_e, if_neg (nI_in (by omega) (by omega)), nI_clamp (by omega), show gI (sF σ 2 (upd (gF σ 2) p (nI s))) 2 = nI g from b5, show gJ (sF τ 0 (upd (gF τ 0) p (nI s))) 0 = lN g from b6, nI_l (by omega), if_neg (show ¬ lN k ≤ 0 from dR_nle 0 (by omega) (by omega)), if_neg (show ¬ lN k = 0 from dR_ne 0 (by omega) (by omega) (by omega)), bd0_e, if_neg (nI_in' (by omega) (by omega)), if_neg (nI_in' (by omega) (by omega)), lt1_e, lt1_e, R.ms p (by omega), if_neg (show ¬ lN k = 0 from dR_ne 0 (by omega) (by omega) (by omega))]
              generalize a3.toInt64 * lN g / lN k = w
              refine Ok.of rfl rfl ⟨n, t, g, rule, len, 0, ⟨R.B, R.xn, R.mn, R.n2, R.n10, R.xt, R.mt, R.t3, R.xr, R.mr, R.r3, ?_, ?_, R.md, R.d3, R.dd, ?_, R.ml, R.mi, R.bi⟩, V.1, V.2.1, V.2.2.1, ?_⟩
              · intro j hj
                show upd (gF τ 0) p (nI s) j = upd (gF σ 2) p (nI s) j
                by_cases e : j = p
                · subst e; rw [pk_us, pk_us]
                · rw [pk_un e, pk_un e]; exact R.ms j hj
              · intro j hj
                show ∃ s' : Nat, s' ≤ 5 ∧ upd (gF σ 2) p (nI s) j = nI s'
                by_cases e : j = p
                · subst e; rw [pk_us]; exact ⟨s, hs2, rfl⟩
                · rw [pk_un e]; exact R.s5 j hj
              · intro j hj hf
                have hf : ¬ upd (gF σ 2) p (nI s) j = 0 := hf
                show vp_updL (gG τ 1) p w j = vp_updL (gG σ 4) p w j
                by_cases e : j = p
                · subst e; rw [pk_uLs, pk_uLs]
                · rw [pk_un e] at hf
                  rw [pk_uLn e, pk_uLn e]; exact R.ma j hj hf
              · intro k' j s' hk hj hs hc
                have hc : upd (gF σ 2) p (nI s) j = 0 := hc
                by_cases e : j = p
                · subst e
                  rw [pk_us] at hc
                  exact absurd hc (nI_ne0 (by omega) (by omega))
                · rw [pk_un e] at hc
                  exact V.2.2.2 k' j s' hk hj hs hc
            · rw [if_neg (cR_ne 0 hr (by omega) (by omega)), if_neg (nI_nle (by omega) (by omega))]
              exact Ok.of rfl rfl H0
          · rw [if_neg hz, bd0_e, if_pos rfl, if_neg hz]
            exact Ok.of rfl rfl H0
        · rw [hw, bd0_e, bd0_e, if_pos rfl, if_pos rfl]
          exact Ok.of rfl rfl H0
      · rw [hw, bd0_e, bd0_e, if_pos rfl, if_pos rfl]
        exact Ok.of rfl rfl H0
    · rw [hw, bd0_e, bd0_e, if_pos rfl, if_pos rfl]
      exact Ok.of rfl rfl H0
  · rw [X_isNode_out R.xn hout, M_noNode_out R.mn hout R.n2 h10, bd2_e, bd2_e, if_pos rfl, if_neg z10]
    exact Ok.of rfl rfl H0
theorem ok_setCorrect {σ τ : St} (H : Rl σ τ) (a : Int32) : Ok (fX2_setCorrect σ a) (fX3_setCorrect τ a) := by
  have H0 := H
  obtain ⟨n, t, g, rule, len, r, R, V⟩ := H
  have h10 := R.n10
  have h60 := V.2.2.1
  unfold fX2_setCorrect fX3_setCorrect
  rcases nodeC a (show n < 2147483648 by omega) with ⟨p, hp, rfl⟩ | hout
  · rw [X_isNode R.xn hp h10, M_noNode R.mn hp h10, bd2_e, bd2_e, if_neg z10, if_pos rfl, V.1, V.2.1]
    by_cases hr : r = 0
    · subst hr
      rw [if_pos (show nI 0 = 0 from rfl), if_pos (show nI 0 ≤ 0 from by decide), if_neg (nI_in (by omega) (by omega)), if_neg (nI_in (by omega) (by omega)), lt1_e, lt1_e, if_neg (nI_in (by omega) (by omega)), lt1_e, lt1_e, if_neg (nI_in (by omega) (by omega)), nI_clamp (by omega), R.ms p (by omega)]
      refine Ok.of rfl rfl ⟨n, t, g, rule, len, 0, ⟨R.B, R.xn, R.mn, R.n2, R.n10, R.xt, R.mt, R.t3, R.xr, R.mr, R.r3, ?_, ?_, R.md, R.d3, R.dd, ?_, R.ml, R.mi, R.bi⟩, V.1, V.2.1, V.2.2.1, ?_⟩
      · intro j hj
        show upd (gF τ 0) p 0 j = upd (gF σ 2) p 0 j
        by_cases e : j = p
        · subst e; rw [pk_us, pk_us]
        · rw [pk_un e, pk_un e]; exact R.ms j hj
      · intro j hj
        show ∃ s' : Nat, s' ≤ 5 ∧ upd (gF σ 2) p 0 j = nI s'
        by_cases e : j = p
        · subst e; rw [pk_us]; exact ⟨0, by omega, rfl⟩
        · rw [pk_un e]; exact R.s5 j hj
      · intro j hj hf
        have hf : ¬ upd (gF σ 2) p 0 j = 0 := hf
        by_cases e : j = p
        · subst e; rw [pk_us] at hf; exact absurd rfl hf
        · rw [pk_un e] at hf; exact R.ma j hj hf
      · intro k j s hk hj hs hc
        have hk0 : k = 0 := by omega
        subst hk0
        have hm := R.mi j (by omega)
        have hb := R.bi j (by omega)
        rcases (show s = 0 ∨ s = 1 by omega) with rfl | rfl
        · show gG τ 4 (20 * 0 + 2 * j + 0) = gG σ 0 (10 * 0 + j) ∧ bnd (gG σ 0 (10 * 0 + j))
          rw [show 20 * 0 + 2 * j + 0 = 2 * j from by omega, show 10 * 0 + j = j from by omega]
          exact ⟨hm.2.2.1, hb.1⟩
        · show gG τ 4 (20 * 0 + 2 * j + 1) = gG σ 1 (10 * 0 + j) ∧ bnd (gG σ 1 (10 * 0 + j))
          rw [show 20 * 0 + 2 * j + 1 = 2 * j + 1 from by omega, show 10 * 0 + j = j from by omega]
          exact ⟨hm.2.2.2, hb.2⟩
    · rw [if_neg (cR_ne 0 hr (by omega) (by omega)), if_neg (nI_nle (by omega) (by omega))]
      exact Ok.of rfl rfl H0
  · rw [X_isNode_out R.xn hout, M_noNode_out R.mn hout R.n2 h10, bd2_e, bd2_e, if_pos rfl, if_neg z10]
    exact Ok.of rfl rfl H0
theorem m1_or {a : Int32} (h1 : (-1 : Int32).toInt ≤ a.toInt) (h2 : a.toInt ≤ (3 : Int32).toInt) : a = -1 ∨ ∃ d : Nat, d ≤ 3 ∧ a = nI d := by
  have e1 : (-1 : Int32).toInt = -1 := rfl
  have e2 : (3 : Int32).toInt = 3 := rfl
  by_cases h : a.toInt = -1
  · left; rw [fa_eq, e1]; exact h
  · right
    refine ⟨a.toInt.toNat, by omega, ?_⟩
    rw [fa_eq, nI_toInt (by omega)]; omega
theorem ok_setLink {σ τ : St} (H : Rl σ τ) (a1 a2 a3 : Int32) : Ok (fX2_setLink σ a1 a2 a3) (fX3_setLink τ a1 a2 a3) := by
  have H0 := H
  obtain ⟨n, t, g, rule, len, r, R, V⟩ := H
  have h10 := R.n10
  unfold fX2_setLink fX3_setLink
  rcases two_eq R a1 a2 with ⟨p, q, hp, hq, hpq, rfl, rfl, e1, e2⟩ | ⟨e1, e2⟩
  · rw [e1, e2, bd2_e, bd2_e, if_neg z10, if_pos rfl, show (-1 : Int64) = (-1 : Int32).toInt64 from by decide, show (3 : Int64) = (3 : Int32).toInt64 from by decide, wiW]
    rcases isW_c a3 (-1) 3 with ⟨hw, h1, h2⟩ | ⟨hw, -⟩
    · rw [hw, bd0_e, bd0_e, if_neg z10, if_neg z10, X_delayOf (by omega) (by omega), bd2_e, ix10, ix01, show p * 10 + q = 10 * p + q from by omega, if_neg (nI_in (by omega) (by omega)), lt1_e, if_neg (nI_in (by omega) (by omega)), lt1_e, if_neg (nI_in (by omega) (by omega)), lt1_e, nI_clamp (by omega), R.md _ (by omega)]
      refine Ok.of rfl rfl ⟨n, t, g, rule, len, r, ⟨R.B, R.xn, R.mn, R.n2, R.n10, R.xt, R.mt, R.t3, R.xr, R.mr, R.r3, R.ms, R.s5, ?_, ?_, ?_, R.ma, R.ml, R.mi, R.bi⟩, V⟩
      · intro k hk
        show upd (gF τ 1) (10 * p + q) a3 k = upd (gF σ 1) (10 * p + q) a3 k
        by_cases e : k = 10 * p + q
        · subst e; rw [pk_us, pk_us]
        · rw [pk_un e, pk_un e]; exact R.md k hk
      · intro k hk
        show upd (gF σ 1) (10 * p + q) a3 k = -1 ∨ ∃ d : Nat, d ≤ 3 ∧ upd (gF σ 1) (10 * p + q) a3 k = nI d
        by_cases e : k = 10 * p + q
        · subst e; rw [pk_us]; exact m1_or h1 h2
        · rw [pk_un e]; exact R.d3 k hk
      · intro j hj
        show upd (gF σ 1) (10 * p + q) a3 (10 * j + j) = 0
        rw [pk_un (by omega)]
        exact R.dd j hj
    · rw [hw, bd0_e, bd0_e, if_pos rfl, if_pos rfl]
      exact Ok.of rfl rfl H0
  · rw [e1, e2, bd2_e, bd2_e, if_pos rfl, if_neg z10]
    exact Ok.of rfl rfl H0
theorem ok_setRule {σ τ : St} (H : Rl σ τ) (a : Int32) : Ok (fX2_setRule σ a) (fX3_setRule τ a) := by
  have H0 := H
  obtain ⟨n, t, g, rule, len, r, R, V⟩ := H
  unfold fX2_setRule fX3_setRule
  rw [show (0 : Int64) = (0 : Int32).toInt64 from by decide, show (3 : Int64) = (3 : Int32).toInt64 from by decide, wiW]
  rcases isW_c a 0 3 with ⟨hw, h1, h2⟩ | ⟨hw, -⟩
  · obtain ⟨s, hs1, hs2, rfl⟩ := of_rng (a := a) (lo := 0) (hi := 3) h1 h2 (by omega)
    rw [hw, bd0_e, bd0_e, if_neg z10, if_neg z10, lt1_e, lt1_e, lt1_e, lt1_e, R.xr, R.mr]
    exact Ok.of rfl rfl ⟨n, t, g, s, len, r, R.rule hs2, V.rule _⟩
  · rw [hw, bd0_e, bd0_e, if_pos rfl, if_pos rfl]
    exact Ok.of rfl rfl H0
theorem ok_strategy {σ τ : St} (H : Rl σ τ) (a : Int32) : Ok (fX2_strategy σ a) (fX3_strategy τ a) := by
  have H0 := H
  obtain ⟨n, t, g, rule, len, r, R, V⟩ := H
  have h10 := R.n10
  unfold fX2_strategy fX3_strategy
  rcases nodeC a (show n < 2147483648 by omega) with ⟨p, hp, rfl⟩ | hout
  · rw [X_isNode R.xn hp h10, M_noNode R.mn hp h10, bd2_e, bd2_e, if_neg z10, if_pos rfl, if_neg (nI_in (by omega) (by omega)), if_neg (nI_in (by omega) (by omega)), nI_clamp (by omega), R.ms p (by omega)]
    exact Ok.of rfl rfl H0
  · rw [X_isNode_out R.xn hout, M_noNode_out R.mn hout R.n2 h10, bd2_e, bd2_e, if_pos rfl, if_neg z10]
    exact Ok.of rfl rfl H0
theorem ok_run {σ τ : St} {N : Nat} (hN : 2000 ≤ N) (H : Rl σ τ) (a : Int32) : Ok (fX2_run N σ a) (fX3_run N τ a) := by
  obtain ⟨n, t, g, rule, len, r, R, V⟩ := H
  obtain ⟨σ2, τ2, r2, v, h1, h2, h3, h4⟩ := run_eq hN R V a
  exact Ok.of h3 h4 (Rl.i h1 h2)
theorem ok_runTo {σ τ : St} {N : Nat} (hN : 2000 ≤ N) (H : Rl σ τ) (a1 a2 a3 : Int32) : Ok (fX2_runTo N σ a1 a2 a3) (fX3_runTo N τ a1 a2 a3) := by
  obtain ⟨n, t, g, rule, len, r, R, V⟩ := H
  obtain ⟨σ2, τ2, r2, v, h1, h2, h3, h4⟩ := runTo_eq hN R V a1 a2 a3
  exact Ok.of h3 h4 (Rl.i h1 h2)
theorem ok_back {σ τ : St} (H : Rl σ τ) (a : Int32) : Ok (fX2_back σ a) (fX3_back τ a) := by
  obtain ⟨n, t, g, rule, len, r, R, V⟩ := H
  obtain ⟨σ2, τ2, r2, v, h1, h2, h3, h4⟩ := back_eq R V a
  exact Ok.of h3 h4 (Rl.i h1 h2)
theorem ok_roundsTo {σ τ : St} {N : Nat} (hN : 2000 ≤ N) (H : Rl σ τ) (a1 a2 a3 : Int32) : Ok (fX2_roundsTo N σ a1 a2 a3) (fX3_roundsTo N τ a1 a2 a3) := by
  obtain ⟨n, t, g, rule, len, r, R, V⟩ := H
  obtain ⟨σ2, τ2, v, -, -, h1, h2, h3, h4⟩ := roundsTo_eq hN R V a1 a2 a3
  exact Ok.of h3 h4 (Rl.i h1 h2)
theorem ok_worst {σ τ : St} {N : Nat} (hN : 2000 ≤ N) (H : Rl σ τ) (a1 a2 : Int32) : Ok (fX2_worstStrategy N σ a1 a2) (fX3_worstStrategy N τ a1 a2) := by
  obtain ⟨n, t, g, rule, len, r, R, V⟩ := H
  obtain ⟨σ2, τ2, v, h1, h2, h3, h4⟩ := worst_eq hN R V a1 a2
  exact Ok.of h3 h4 (Rl.i h1 h2)
theorem ok_best {σ τ : St} {N : Nat} (hN : 2000 ≤ N) (H : Rl σ τ) (a : Int32) : Ok (fX2_bestRule N σ a) (fX3_bestRule N τ a) := by
  obtain ⟨n, t, g, rule, len, r, R, V⟩ := H
  obtain ⟨σ2, τ2, v, h1, h2, h3, h4⟩ := best_eq hN R V a
  exact Ok.of h3 h4 (Rl.i h1 h2)
/-! answers that are fractions -/
theorem asF {σ τ : St} {n t g rule len N : Nat} (hN : 2000 ≤ N) (R : RP σ τ n t g rule len) {x : Int64} (hx : bnd x) (z : Int32) : fX2_asFraction N σ x z = some (frac x g z, σ) ∧ fX3_part N x (gJ τ 0) z = some (frac x g z) := by
  obtain ⟨b1, b2, b3, b4, b4', b5, b6, b7, b8⟩ := R.B
  have h1 : -9223372036854775808 < x.toInt := by have := hx.1; omega
  unfold fX2_asFraction
  rw [b5, nI_l (by omega), X_frac hN h1 (by omega) (by omega), bd0_e, b6, M_frac hN h1 (by omega) (by omega)]
  exact ⟨rfl, rfl⟩
theorem sd_z {h : Int32} (q : h = 0) : sd h = 0 := if_pos q
theorem sd_nz {h : Int32} (q : ¬ h = 0) : sd h = 1 := if_neg q
theorem ok_value {σ τ : St} {N : Nat} (hN : 2000 ≤ N) (H : Rl σ τ) (a1 a2 a3 a4 : Int32) : Ok (fX2_value N σ a1 a2 a3 a4) (fX3_value N τ a1 a2 a3 a4) := by
  have H0 := H
  obtain ⟨n, t, g, rule, len, r, R, V⟩ := H
  have h10 := R.n10
  have h60 := V.2.2.1
  unfold fX2_value fX3_value fX3_lost
  rcases nodeC a1 (show n < 2147483648 by omega) with ⟨p, hp, rfl⟩ | hout
  · rw [X_isCorrect R.xn hp h10, M_noNode R.mn hp h10, bd2_e, bd2_e, if_pos rfl, show (0 : Int64) = (0 : Int32).toInt64 from by decide, wiW, V.1, V.2.1]
    by_cases hc : cor σ p = true
    · rw [if_pos hc, if_neg z10]
      rcases isW_c a2 0 (nI r) with ⟨hw, h1, h2⟩ | ⟨hw, -⟩
      · rw [nI_toInt (by omega)] at h2
        obtain ⟨k, hk1, hk2, rfl⟩ := of_rng (a := a2) (lo := 0) (hi := r) h1 h2 (by omega)
        have hv := V.2.2.2 k p (sd a3) hk2 hp (sd_lt a3) (cor_t.mp hc)
        have hf := asF hN R hv.2 a4
        rw [hw, bd0_e, bd0_e, if_neg z10, if_neg z10, X_end _ (by omega), bd2_e, hf.1, bd2_e, M_isCorrect R hp, bd2_e, if_pos hc, if_neg z10]
        by_cases hz : a3 = 0
        · rw [if_pos hz, show fX3_end τ (nI p) (nI k) 0 = _ from M_end (s := 0) (by omega), bd2_e]
          rw [sd_z hz] at hv hf
          rw [hv.1, hf.2, bd0_e, sd_z hz]
          exact Ok.of rfl rfl H0
        · rw [if_neg hz, show fX3_end τ (nI p) (nI k) 1 = _ from M_end (s := 1) (by omega), bd2_e]
          rw [sd_nz hz] at hv hf
          rw [hv.1, hf.2, bd0_e, sd_nz hz]
          exact Ok.of rfl rfl H0
      · rw [hw, bd0_e, bd0_e, if_pos rfl, if_pos rfl, bd0_e]
        exact Ok.of rfl rfl H0
    · rw [if_neg hc, if_pos rfl]
      rcases isW_c a2 0 (nI r) with ⟨hw, h1, h2⟩ | ⟨hw, -⟩
      · rw [hw, bd0_e, if_neg z10, M_isCorrect R hp, bd2_e, if_neg hc, if_pos rfl, bd0_e]
        exact Ok.of rfl rfl H0
      · rw [hw, bd0_e, if_pos rfl, bd0_e]
        exact Ok.of rfl rfl H0
  · rw [X_isCorrect_out R.xn hout, M_noNode_out R.mn hout R.n2 h10, bd2_e, bd2_e, if_pos rfl, if_neg z10, bd0_e]
    exact Ok.of rfl rfl H0
theorem ok_input {σ τ : St} {N : Nat} (hN : 2000 ≤ N) (H : Rl σ τ) (a1 a2 a3 : Int32) : Ok (fX2_input N σ a1 a2 a3) (fX3_input N τ a1 a2 a3) := by
  have H0 := H
  obtain ⟨n, t, g, rule, len, r, R, V⟩ := H
  have h10 := R.n10
  unfold fX2_input fX3_input fX3_lost
  rcases nodeC a1 (show n < 2147483648 by omega) with ⟨p, hp, rfl⟩ | hout
  · have hm := R.mi p (by omega)
    have hb := R.bi p (by omega)
    rw [X_isNode R.xn hp h10, M_noNode R.mn hp h10, bd2_e, bd2_e, if_neg z10, if_pos rfl, show fX0_end σ 3 (0 : Int32) (nI p) a2 = _ from X_end (k := 0) a2 (by omega), bd2_e]
    by_cases hz : a2 = 0
    · have hv : val σ 0 p (sd a2) = gG σ 0 p := by
        unfold val
        rw [if_pos (sd_z hz), show 10 * 0 + p = p from by omega]
      have hf := asF hN R hb.1 a3
      rw [hv, hf.1, bd2_e, if_pos hz, show (2 : Int32) * nI p + (0 : Int32) = nI (2 * p + 0) from ix2 p 0, if_neg (nI_in (by omega) (by omega)), nI_clamp (by omega), show 2 * p + 0 = 2 * p from rfl, hm.1, hf.2, bd0_e]
      exact Ok.of rfl rfl H0
    · have hv : val σ 0 p (sd a2) = gG σ 1 p := by
        unfold val
        rw [if_neg (by rw [sd_nz hz]; decide), show 10 * 0 + p = p from by omega]
      have hf := asF hN R hb.2 a3
      rw [hv, hf.1, bd2_e, if_neg hz, show (2 : Int32) * nI p + (1 : Int32) = nI (2 * p + 1) from ix2 p 1, if_neg (nI_in (by omega) (by omega)), nI_clamp (by omega), hm.2.1, hf.2, bd0_e]
      exact Ok.of rfl rfl H0
  · rw [X_isNode_out R.xn hout, M_noNode_out R.mn hout R.n2 h10, bd2_e, bd2_e, if_pos rfl, if_neg z10, bd0_e]
    exact Ok.of rfl rfl H0
theorem M_noReceiver {σ τ : St} {n t g rule len p : Nat} (R : RP σ τ n t g rule len) (hp : p < n) : fX3_noReceiver τ (nI p) = some (if cor σ p = true then 0 else 1, τ) := by
  unfold fX3_noReceiver
  rw [M_noNode R.mn hp R.n10, bd2_e, if_pos rfl, M_isCorrect R hp, bd2_e]
  by_cases hc : cor σ p = true
  · rw [if_pos hc, if_pos hc, if_neg z10]
  · rw [if_neg hc, if_neg hc, if_pos rfl]
theorem M_noReceiver_out {τ : St} {n : Nat} {a : Int32} (hn : gI τ 0 = nI n) (h : a < 0 ∨ nI n ≤ a) (h2 : 2 ≤ n) (h10 : n ≤ 10) : fX3_noReceiver τ a = some (1, τ) := by
  unfold fX3_noReceiver
  rw [M_noNode_out hn h h2 h10, bd2_e, if_neg z10]
theorem ok_received {σ τ : St} {N : Nat} (hN : 2000 ≤ N) (H : Rl σ τ) (a1 a2 a3 a4 : Int32) : Ok (fX2_received N σ a1 a2 a3 a4) (fX3_received N τ a1 a2 a3 a4) := by
  have H0 := H
  obtain ⟨n, t, g, rule, len, r, R, V⟩ := H
  have h10 := R.n10
  unfold fX2_received fX3_received fX3_lost
  rcases nodeC a1 (show n < 2147483648 by omega) with ⟨q, hq, rfl⟩ | hout
  · rw [X_isCorrect R.xn hq h10, M_noReceiver R hq, bd2_e, bd2_e]
    by_cases hc : cor σ q = true
    · rw [if_pos hc, if_pos hc, if_neg z10, if_pos rfl]
      rcases nodeC a2 (show n < 2147483648 by omega) with ⟨p, hp, rfl⟩ | hout
      · rw [X_isNode R.xn hp h10, M_noNode R.mn hp h10, bd2_e, bd2_e, if_neg z10, if_pos rfl, X_delayOf (by omega) (by omega), bd2_e, M_isSent R hp hq, bd2_e]
        by_cases hd : gF σ 1 (10 * p + q) = -1
        · rw [if_pos hd, if_pos hd, if_pos rfl, bd0_e]
          exact Ok.of rfl rfl H0
        · obtain ⟨v, s1, s2⟩ := sent_eq (hi := a3) hN R V hp hq hd
          have s3 := s2 hc
          have hf := asF hN R s3.2 a4
          rw [if_neg hd, if_neg hd, if_neg z10, s3.1, bd2_e, hf.1, bd2_e]
          by_cases hz : a3 = 0
          · rw [sd_z hz] at s1
            rw [if_pos hz, show (0 : Int32) = nI 0 from rfl, s1, bd2_e, hf.2, bd0_e]
            exact Ok.of rfl rfl H0
          · rw [sd_nz hz] at s1
            rw [if_neg hz, show fX3_sent N τ (nI p) (nI q) (1 : Int32) = _ from s1, bd2_e, hf.2, bd0_e]
            exact Ok.of rfl rfl H0
      · rw [X_isNode_out R.xn hout, M_noNode_out R.mn hout R.n2 h10, bd2_e, bd2_e, if_pos rfl, if_neg z10, bd0_e]
        exact Ok.of rfl rfl H0
    · rw [if_neg hc, if_neg hc, if_pos rfl, if_neg z10, bd0_e]
      exact Ok.of rfl rfl H0
  · rw [X_isCorrect_out R.xn hout, M_noReceiver_out R.mn hout R.n2 h10, bd2_e, bd2_e, if_pos rfl, if_neg z10, bd0_e]
    exact Ok.of rfl rfl H0
theorem ok_rest {σ τ : St} {N : Nat} (hN : 2000 ≤ N) (H : Rl σ τ) (a1 a2 a3 a4 : Int32) : Ok (fX2_rest N σ a1 a2 a3 a4) (fX3_rest N τ a1 a2 a3 a4) := by
  have H0 := H
  obtain ⟨n, t, g, rule, len, r, R, V⟩ := H
  have h10 := R.n10
  have h3 := R.t3
  unfold fX2_rest fX3_rest fX3_lost
  rcases nodeC a1 (show n < 2147483648 by omega) with ⟨q, hq, rfl⟩ | hout
  · rw [X_isCorrect R.xn hq h10, M_noReceiver R hq, bd2_e, bd2_e]
    by_cases hc : cor σ q = true
    · rw [if_pos hc, if_pos hc, if_neg z10, if_pos rfl]
      have e23 : (if a3 = (0 : Int32) then fX3_rest_23 N τ a2 a4 (0 : Int32) (nI q) else fX3_rest_23 N τ a2 a4 (1 : Int32) (nI q)) = fX3_rest_23 N τ a2 a4 (nI (sd a3)) (nI q) := by
        by_cases hz : a3 = 0
        · rw [if_pos hz, sd_z hz]; rfl
        · rw [if_neg hz, sd_nz hz]; rfl
      rw [e23]
      obtain ⟨m, f, f', g1, g2, g3⟩ := gather_eq (hi := a3) hN R V hq
      obtain ⟨g4, g5⟩ := g3 hc
      have R' := RP_got f f' (nI m) R
      have V' := RV_got f f' (nI m) V
      have H1 : Rl σ (sG (sI τ 7 (nI m)) 5 f') := by
        have R2 := RP_got (gG σ 5) f' (nI m) R
        have V2 := RV_got (gG σ 5) f' (nI m) V
        rw [sG_self] at R2 V2
        exact Rl.i R2 V2
      unfold fX3_rest_23 fX3_lost
      have e7 : (nI m - nI (2 * t) - 1).toInt = (m : Int) - (2 * t : Nat) - 1 := by
        have e1 := pk_sub_toInt (a := m) (b := 2 * t) (by omega) (by omega)
        have e2 : (1 : Int32).toInt = 1 := rfl
        rw [fb_subI (by omega) (by omega), e1, e2]
      rw [g2, bd0_e, show gI (sG (sI τ 7 (nI m)) 5 f') 7 = nI m from rfl, show gI (sG (sI τ 7 (nI m)) 5 f') 1 = nI t from R'.mt, show (0 : Int64) = (0 : Int32).toInt64 from by decide, wiW, li2, pk_mul, g5, bd2_e]
      have e0 : (0 : Int32).toInt = 0 := rfl
      by_cases hn : a2 < 0
      · rw [if_pos hn]
        rcases isW_c a2 0 (nI m - nI (2 * t) - 1) with ⟨hw, h1, -⟩ | ⟨hw, -⟩
        · rw [fa_lt] at hn; omega
        · rw [hw, bd0_e, if_pos rfl, bd0_e]
          exact Ok.of rfl rfl H1
      · rw [if_neg hn]
        obtain ⟨i, hi, rfl⟩ := nI_of hn
        rcases isW_c (nI i) 0 (nI m - nI (2 * t) - 1) with ⟨hw, h1, h2⟩ | ⟨hw, h2⟩
        · rw [e7, nI_toInt hi] at h2
          rw [if_pos (nI_lt (by omega) (by omega)), X_restAt (σ := sG σ 5 f) R'.xt (by omega), bd2_e]
          have hv := g4 (t + i) (by omega)
          have hf := asF hN R' hv.2 a4
          rw [show gG (sG σ 5 f) 5 (t + i) = f (t + i) from rfl, hf.1, bd2_e, hw, bd0_e, if_neg z10, nI_add, if_neg (nI_in (by omega) (by omega)), nI_clamp (by omega), show gG (sG (sI τ 7 (nI m)) 5 f') 5 (t + i) = f' (t + i) from rfl, ← hv.1, hf.2, bd0_e]
          exact Ok.of rfl rfl (Rl.i R' V')
        · rw [e7, nI_toInt hi, e0] at h2
          rw [if_neg (nI_nlt (by omega) (by omega)), hw, bd0_e, if_pos rfl, bd0_e]
          exact Ok.of rfl rfl (Rl.i R' V')
    · rw [if_neg hc, if_neg hc, if_pos rfl, if_neg z10, bd0_e]
      exact Ok.of rfl rfl H0
  · rw [X_isCorrect_out R.xn hout, M_noReceiver_out R.mn hout R.n2 h10, bd2_e, bd2_e, if_pos rfl, if_neg z10, bd0_e]
    exact Ok.of rfl rfl H0
theorem frac_w {σ τ : St} {n t g rule len N : Nat} (hN : 2000 ≤ N) (R : RP σ τ n t g rule len) {m : Int64} (h1 : 0 ≤ m.toInt) (z : Int32) : fX2_asFraction N σ m z = some (frac m g z, σ) ∧ fX3_part N m (gJ τ 0) z = some (frac m g z) := by
  obtain ⟨b1, b2, b3, b4, b4', b5, b6, b7, b8⟩ := R.B
  have h1 : -9223372036854775808 < m.toInt := by omega
  unfold fX2_asFraction
  rw [b5, nI_l (by omega), X_frac hN h1 (by omega) (by omega), bd0_e, b6, M_frac hN h1 (by omega) (by omega)]
  exact ⟨rfl, rfl⟩
theorem ok_width {σ τ : St} {N : Nat} (hN : 2000 ≤ N) (H : Rl σ τ) (a1 a2 : Int32) : Ok (fX2_width N σ a1 a2) (fX3_width N τ a1 a2) := by
  have H0 := H
  obtain ⟨n, t, g, rule, len, r, R, V⟩ := H
  have h60 := V.2.2.1
  unfold fX2_width fX3_width fX3_lost
  rw [show (0 : Int64) = (0 : Int32).toInt64 from by decide, wiW, V.1, V.2.1]
  rcases isW_c a1 0 (nI r) with ⟨hw, h1, h2⟩ | ⟨hw, -⟩
  · rw [nI_toInt (by omega)] at h2
    obtain ⟨k, hk1, hk2, rfl⟩ := of_rng (a := a1) (lo := 0) (hi := r) h1 h2 (by omega)
    obtain ⟨m, w1, w2, w3, w4⟩ := width_eq hN R V hk2
    have hf := frac_w hN R w3 a2
    rw [hw, bd0_e, bd0_e, if_neg z10, if_neg z10, w1, w2, bd2_e, bd2_e, hf.1, hf.2, bd2_e, bd0_e]
    exact Ok.of rfl rfl H0
  · rw [hw, bd0_e, bd0_e, if_pos rfl, if_pos rfl, bd0_e]
    exact Ok.of rfl rfl H0
theorem ok_rate {σ τ : St} {N : Nat} (hN : 2000 ≤ N) (H : Rl σ τ) (a1 a2 : Int32) : Ok (fX2_rate N σ a1 a2) (fX3_rate N τ a1 a2) := by
  have H0 := H
  obtain ⟨n, t, g, rule, len, r, R, V⟩ := H
  have h60 := V.2.2.1
  unfold fX2_rate fX3_rate fX3_lost
  rw [show (1 : Int64) = (1 : Int32).toInt64 from by decide, wiW, V.1, V.2.1]
  rcases isW_c a1 1 (nI r) with ⟨hw, h1, h2⟩ | ⟨hw, -⟩
  · rw [nI_toInt (by omega)] at h2
    obtain ⟨k, hk1, hk2, rfl⟩ := of_rng (a := a1) (lo := 1) (hi := r) h1 h2 (by omega)
    obtain ⟨m, w1, w2, w3, w4⟩ := width_eq hN R V (show k - 1 ≤ r by omega)
    obtain ⟨m', w1', w2', w3', w4'⟩ := width_eq hN R V hk2
    rw [hw, bd0_e, bd0_e, if_neg z10, if_neg z10, show nI k - 1 = nI (k - 1) from pk_sub hk1, w1, w2, bd2_e, bd2_e]
    by_cases hz : m = 0
    · rw [if_pos hz, if_pos hz, bd0_e]
      exact Ok.of rfl rfl H0
    · have hm : m = lN m.toInt.toNat := by
        rw [fa_eq64, pk_lT (by omega)]; omega
      have hpos : 0 < m.toInt.toNat := by
        have : m.toInt ≠ 0 := fun z => hz (by rw [fa_eq64]; exact z)
        omega
      rw [if_neg hz, if_neg hz, w1', w2', bd2_e, bd2_e, w2, bd2_e, hm, X_frac hN (by omega) hpos (by omega), M_frac hN (by omega) hpos (by omega), bd0_e, bd0_e]
      exact Ok.of rfl rfl H0
  · rw [hw, bd0_e, bd0_e, if_pos rfl, if_pos rfl, bd0_e]
    exact Ok.of rfl rfl H0
