/-! the calls, one after another: both sides answer alike, and are alike behind -/
def Rl (σ τ : St) : Prop := ∃ n t g rule len r, RP σ τ n t g rule len ∧ RV σ τ n r
def Ok {α : Type} (X M : Option (α × St)) : Prop := ∃ v σ' τ', X = some (v, σ') ∧ M = some (v, τ') ∧ Rl σ' τ'
theorem Ok.of {α : Type} {X M : Option (α × St)} {v : α} {σ τ : St} (h1 : X = some (v, σ)) (h2 : M = some (v, τ)) (h : Rl σ τ) : Ok X M := ⟨v, σ, τ, h1, h2, h⟩
theorem ok_reset {σ τ : St} {N : Nat} (hN : 2000 ≤ N) (H : Rl σ τ) (a1 a2 a3 : Int32) : Ok (fX2_reset N σ a1 a2 a3) (fX3_reset N τ a1 a2 a3) := by
  have H0 := H
  obtain ⟨n, t, g, rule, len, r, R, V⟩ := H
  unfold fX2_reset fX3_reset
  rw [show (2 : Int64) = (2 : Int32).toInt64 from by decide, show (10 : Int64) = (10 : Int32).toInt64 from by decide, show (0 : Int64) = (0 : Int32).toInt64 from by decide, show (3 : Int64) = (3 : Int32).toInt64 from by decide, show (1 : Int64) = (1 : Int32).toInt64 from by decide, show (720720 : Int64) = (720720 : Int32).toInt64 from by decide, wiW, wiW, wiW]
  rcases isW_c a1 2 10 with ⟨hw, h1, h2⟩ | ⟨hw, -⟩
  · obtain ⟨n2, hn1, hn2, rfl⟩ := of_rng (a := a1) (lo := 2) (hi := 10) h1 h2 (by omega)
    rw [hw, bd0_e, if_neg z10, bd0_e, if_neg z10]
    rcases isW_c a2 0 3 with ⟨hw, h1, h2⟩ | ⟨hw, -⟩
    · obtain ⟨t2, ht1, ht2, rfl⟩ := of_rng (a := a2) (lo := 0) (hi := 3) h1 h2 (by omega)
      rw [hw, bd0_e, if_neg z10, bd0_e, if_neg z10]
      rcases isW_c a3 1 720720 with ⟨hw, h1, h2⟩ | ⟨hw, -⟩
      · obtain ⟨g2, hg1, hg2, rfl⟩ := of_rng (a := a3) (lo := 1) (hi := 720720) h1 h2 (by omega)
        rw [hw, bd0_e, if_neg z10, bd0_e, if_neg z10, lt1_e, lt1_e, R.xn, R.mn]
        obtain ⟨b1, b2, b3, b4, b4', b5, b6, b7, b8⟩ := R.B
        obtain ⟨σ2, τ2, e1, e2, R2, V2⟩ := start_rel (N := N) hN b1 b2 b3 b4 b4' hn1 hn2 ht2 hg1 hg2
        rw [e1, e2, bd0_e, bd0_e]
        exact Ok.of rfl rfl ⟨_, _, _, _, _, _, R2, V2⟩
      · rw [hw, bd0_e, if_pos rfl, bd0_e, if_pos rfl]
        exact Ok.of rfl rfl H0
    · rw [hw, bd0_e, if_pos rfl, bd0_e, if_pos rfl]
      exact Ok.of rfl rfl H0
  · rw [hw, bd0_e, if_pos rfl, bd0_e, if_pos rfl]
    exact Ok.of rfl rfl H0
theorem nar2 (x : Int32) : vp_nar .char (vp_nar .char x) = vp_nar .char x := by
  rw [vp_nar_char x, UInt32.toUInt32_toUInt16, pk_char, vp_nar_char]
  exact fb_char (by omega)
theorem ok_type {σ τ : St} (H : Rl σ τ) (a : Int32) : Ok (fX2_type σ a) (fX3_type τ a) := by
  have H0 := H
  obtain ⟨n, t, g, rule, len, r, R, V⟩ := H
  obtain ⟨b1, b2, b3, b4, b4', b5, b6, b7, b8⟩ := R.B
  unfold fX2_type fX3_type fX1_append fX1_size
  rw [b1, b2, if_neg (nI_pos (by omega))]
  by_cases hl : len < 40
  · rw [if_pos (cR_lt 40 hl (by omega)), if_neg (nI_in (by omega) (by omega)), lt1_e, lt1_e, bd2_e, if_neg z10, bd2_e, if_neg (cR_ne 40 (by omega) (by omega) (by omega)), if_neg (nI_in (by omega) (by omega)), nI_clamp (by omega), lt1_e, lt1_e, show gI (sF σ 0 (upd (gF σ 0) len (vp_nar .char a))) 5 = nI len from b1, show gI (sF τ 2 (upd (gF τ 2) len (vp_nar .char a))) 4 = nI len from b2, nI_1]
    refine Ok.of rfl rfl ⟨n, t, g, rule, len + 1, r, ⟨⟨rfl, rfl, by omega, ?_, ?_, b5, b6, b7, b8⟩, R.xn, R.mn, R.n2, R.n10, R.xt, R.mt, R.t3, R.xr, R.mr, R.r3, R.ms, R.s5, R.md, R.d3, R.dd, R.ma, R.ml, R.mi, R.bi⟩, V⟩
    · intro j hj
      show upd (gF τ 2) len (vp_nar .char a) j = upd (gF σ 0) len (vp_nar .char a) j
      by_cases e : j = len
      · subst e; rw [pk_us, pk_us]
      · rw [pk_un e, pk_un e]; exact b4 j hj
    · intro j hj
      show vp_nar .char (upd (gF σ 0) len (vp_nar .char a) j) = upd (gF σ 0) len (vp_nar .char a) j
      by_cases e : j = len
      · subst e; rw [pk_us]; exact nar2 a
      · rw [pk_un e]; exact b4' j hj
  · have hl : len = 40 := by omega
    subst hl
    rw [if_neg (cR_nlt 40 (Nat.le_refl _) (by omega)), bd2_e, if_pos rfl, if_pos (cR_eq 40 rfl)]
    exact Ok.of rfl rfl H0
theorem ok_clearText {σ τ : St} (H : Rl σ τ) : Ok (fX2_clearText σ) (fX3_clearText τ) := by
  obtain ⟨n, t, g, rule, len, r, R, V⟩ := H
  obtain ⟨b1, b2, b3, b4, b4', b5, b6, b7, b8⟩ := R.B
  unfold fX2_clearText fX3_clearText fX1_empty
  rw [lt1_e, lt1_e, bd2_e, lt1_e, lt1_e, b1, b2]
  exact Ok.of rfl rfl ⟨n, t, g, rule, 0, r, ⟨⟨rfl, rfl, Nat.zero_le _, b4, b4', b5, b6, b7, b8⟩, R.xn, R.mn, R.n2, R.n10, R.xt, R.mt, R.t3, R.xr, R.mr, R.r3, R.ms, R.s5, R.md, R.d3, R.dd, R.ma, R.ml, R.mi, R.bi⟩, V⟩
theorem RP.kk {σ τ σ' τ' : St} {n t g rule len : Nat} (R : RP σ τ n t g rule len) (hx : kX σ σ') (hm : kM τ τ') : RP σ' τ' n t g rule len := by
  obtain ⟨⟨b1, b2, b3, b4, b4', b5, b6, b7, b8⟩, a1, a2, a3, a4, a5, a6, a7, a8, a9, a10, a11, a12, a13, a14, a15, a16, a17, a18, a19⟩ := R
  refine ⟨⟨(hx.1 5 (by decide)).trans b1, (hm.1 4 (by decide) (by decide)).trans b2, b3, ?_, ?_, (hx.1 2 (by decide)).trans b5, hm.2.1.trans b6, b7, b8⟩, (hx.1 0 (by decide)).trans a1, (hm.1 0 (by decide) (by decide)).trans a2, a3, a4, (hx.1 1 (by decide)).trans a5, (hm.1 1 (by decide) (by decide)).trans a6, a7, (hx.1 4 (by decide)).trans a8, (hm.1 2 (by decide) (by decide)).trans a9, a10, ?_, ?_, ?_, ?_, ?_, ?_, ?_, ?_, ?_⟩
  · intro j hj; rw [hm.F, hx.F]; exact b4 j hj
  · intro j hj; rw [hx.F]; exact b4' j hj
  · intro j hj; rw [hm.F, hx.F]; exact a11 j hj
  · intro j hj; rw [hx.F]; exact a12 j hj
  · intro j hj; rw [hm.F, hx.F]; exact a13 j hj
  · intro j hj; rw [hx.F]; exact a14 j hj
  · intro j hj; rw [hx.F]; exact a15 j hj
  · intro j hj; rw [hx.F, kM.G hm, hx.G]; exact a16 j hj
  · intro j hj; rw [kM.G hm, kM.G hm, hx.G, hx.G]; exact a17 j hj
  · intro j hj; rw [kM.G hm, kM.G hm, hx.G, hx.G]; exact a18 j hj
  · intro j hj; rw [hx.G, hx.G]; exact a19 j hj
theorem RV.kk {σ τ σ' τ' : St} {n r : Nat} (V : RV σ τ n r) (hx : kX σ σ') (hm : kM τ τ') : RV σ' τ' n r := by
  refine ⟨(hx.1 3 (by decide)).trans V.1, (hm.1 3 (by decide) (by decide)).trans V.2.1, V.2.2.1, fun k p s hk hp hs hc => ?_⟩
  rw [hx.F] at hc
  unfold val
  rw [kM.G hm, hx.G, hx.G]
  exact V.2.2.2 k p s hk hp hs hc
theorem fault_neg {f : Nat} (h : f ≤ 40) : ¬ (0 : Int32) ≤ -100 - nI f := fun q => by
  rw [fa_le, fb_subI (by rw [nI_toInt (by omega)]; have : (-100 : Int32).toInt = -100 := rfl; omega) (by rw [nI_toInt (by omega)]; have : (-100 : Int32).toInt = -100 := rfl; omega), nI_toInt (by omega)] at q
  have : (-100 : Int32).toInt = -100 := rfl
  have : (0 : Int32).toInt = 0 := rfl
  omega
theorem bnd_1000 {g : Nat} {x : Int64} (hg : g ≤ 720720) (h1 : -(1000 * (g : Int)) ≤ x.toInt) (h2 : x.toInt ≤ 1000 * (g : Int)) : bnd x := by
  unfold bnd; omega
theorem ok_readInput {σ τ : St} {N : Nat} (hN : 2000 ≤ N) (H : Rl σ τ) (a : Int32) : Ok (fX2_readInput N σ a) (fX3_readInput N τ a) := by
  have H0 := H
  obtain ⟨n, t, g, rule, len, r, R, V⟩ := H
  have h10 := R.n10
  have h60 := V.2.2.1
  obtain ⟨b1, b2, b3, b4, b4', b5, b6, b7, b8⟩ := R.B
  unfold fX2_readInput fX3_readInput
  rcases nodeC a (show n < 2147483648 by omega) with ⟨p, hp, rfl⟩ | hout
  · rw [X_isNode R.xn hp h10, M_noNode R.mn hp h10, bd2_e, bd2_e, if_neg z10, if_pos rfl, V.1, V.2.1]
    by_cases hr : r = 0
    · subst hr
      rw [if_pos (show nI 0 = 0 from rfl), if_pos (show nI 0 ≤ 0 from by decide)]
      unfold fX2_readTextInto
      rw [b5]
      obtain ⟨rx, rm, σ2, τ2, e1, e2, kx, km, hh⟩ := interval hN R.B
      rw [e1, e2, bd2_e, bd2_e]
      have R2 := R.kk kx km
      have V2 := V.kk kx km
      rcases hh with ⟨f, hf, rfl, rfl⟩ | ⟨rfl, rfl, j1, j2, l1, l2, l3, l4⟩
      · rw [if_neg (nI_m1 hf), if_neg (fault_neg hf), bd2_e]
        exact Ok.of rfl rfl ⟨_, _, _, _, _, _, R2, V2⟩
      · unfold fX1_parsedLow fX1_parsedHigh
        rw [if_pos rfl, bd2_e, bd2_e, if_neg (show ¬ isT 3 = false from by decide), show fX0_put σ2 3 (0 : Int32) (nI p) (gJ σ2 1) (gJ σ2 2) = _ from X_put (k := 0) _ _ (by omega), bd0_e, bd2_e, if_pos (Int32.le_refl _), li2, pk_mul, nI_1, if_neg (nI_in (by omega) (by omega)), lt1_e, if_neg (nI_in (by omega) (by omega)), lt1_e, if_neg (nI_in (by omega) (by omega)), lt1_e, if_neg (nI_in (by omega) (by omega)), lt1_e, nI_clamp (by omega), nI_clamp (by omega)]
        refine Ok.of rfl rfl ⟨n, t, g, rule, len, 0, ⟨R2.B, R2.xn, R2.mn, R2.n2, R2.n10, R2.xt, R2.mt, R2.t3, R2.xr, R2.mr, R2.r3, R2.ms, R2.s5, R2.md, R2.d3, R2.dd, R2.ma, R2.ml, ?_, ?_⟩, V2.1, V2.2.1, V2.2.2.1, ?_⟩
        · intro j hj
          show vp_updL (vp_updL (gG τ2 0) (2 * p) (gJ τ2 1)) (2 * p + 1) (gJ τ2 2) (2 * j) = vp_updL (gG σ2 0) (10 * 0 + p) (gJ σ2 1) j ∧ vp_updL (vp_updL (gG τ2 0) (2 * p) (gJ τ2 1)) (2 * p + 1) (gJ τ2 2) (2 * j + 1) = vp_updL (gG σ2 1) (10 * 0 + p) (gJ σ2 2) j ∧ vp_updL (vp_updL (gG τ2 4) (2 * p) (gJ τ2 1)) (2 * p + 1) (gJ τ2 2) (2 * j) = vp_updL (gG σ2 0) (10 * 0 + p) (gJ σ2 1) j ∧ vp_updL (vp_updL (gG τ2 4) (2 * p) (gJ τ2 1)) (2 * p + 1) (gJ τ2 2) (2 * j + 1) = vp_updL (gG σ2 1) (10 * 0 + p) (gJ σ2 2) j
          rw [show 10 * 0 + p = p from by omega, ← j1, ← j2]
          by_cases e : j = p
          · subst e
            rw [pk_uLn (by omega), pk_uLs, pk_uLs, pk_uLs, pk_uLs, pk_uLn (by omega), pk_uLs, pk_uLs]
            exact ⟨rfl, rfl, rfl, rfl⟩
          · rw [pk_uLn (by omega), pk_uLn (by omega), pk_uLn e, pk_uLn (by omega), pk_uLn (by omega), pk_uLn e, pk_uLn (by omega), pk_uLn (by omega), pk_uLn (by omega), pk_uLn (by omega)]
            exact R2.mi j hj
        · intro j hj
          show bnd (vp_updL (gG σ2 0) (10 * 0 + p) (gJ σ2 1) j) ∧ bnd (vp_updL (gG σ2 1) (10 * 0 + p) (gJ σ2 2) j)
          rw [show 10 * 0 + p = p from by omega]
          by_cases e : j = p
          · subst e
            rw [pk_uLs, pk_uLs]
            exact ⟨bnd_1000 b8 l1 l2, bnd_1000 b8 l3 l4⟩
          · rw [pk_uLn e, pk_uLn e]
            exact R2.bi j hj
        · intro k q s hk hq hs hc
          have hk0 : k = 0 := by omega
          subst hk0
          have hv := V2.2.2.2 0 q s hk hq hs hc
          rcases (show s = 0 ∨ s = 1 by omega) with rfl | rfl
          · show vp_updL (vp_updL (gG τ2 4) (2 * p) (gJ τ2 1)) (2 * p + 1) (gJ τ2 2) (20 * 0 + 2 * q + 0) = vp_updL (gG σ2 0) (10 * 0 + p) (gJ σ2 1) (10 * 0 + q) ∧ bnd (vp_updL (gG σ2 0) (10 * 0 + p) (gJ σ2 1) (10 * 0 + q))
            by_cases e : q = p
            · subst e
              rw [pk_uLn (by omega), show 20 * 0 + 2 * q + 0 = 2 * q from by omega, pk_uLs, pk_uLs]
              exact ⟨j1, bnd_1000 b8 l1 l2⟩
            · rw [pk_uLn (by omega), pk_uLn (by omega), pk_uLn (by omega)]
              exact hv
          · show vp_updL (vp_updL (gG τ2 4) (2 * p) (gJ τ2 1)) (2 * p + 1) (gJ τ2 2) (20 * 0 + 2 * q + 1) = vp_updL (gG σ2 1) (10 * 0 + p) (gJ σ2 2) (10 * 0 + q) ∧ bnd (vp_updL (gG σ2 1) (10 * 0 + p) (gJ σ2 2) (10 * 0 + q))
            by_cases e : q = p
            · subst e
              rw [show 20 * 0 + 2 * q + 1 = 2 * q + 1 from by omega, pk_uLs, pk_uLs]
              exact ⟨j2, bnd_1000 b8 l3 l4⟩
            · rw [pk_uLn (by omega), pk_uLn (by omega), pk_uLn (by omega)]
              exact hv
    · rw [if_neg (cR_ne 0 hr (by omega) (by omega)), if_neg (nI_nle (by omega) (by omega))]
      exact Ok.of rfl rfl H0
  · rw [X_isNode_out R.xn hout, M_noNode_out R.mn hout R.n2 h10, bd2_e, bd2_e, if_pos rfl, if_neg z10]
    exact Ok.of rfl rfl H0
theorem two_eq {σ τ : St} {n t g rule len : Nat} (R : RP σ τ n t g rule len) (a1 a2 : Int32) : (∃ p q : Nat, p < n ∧ q < n ∧ p ≠ q ∧ a1 = nI p ∧ a2 = nI q ∧ fX2_areTwoNodes σ a1 a2 = some (1, σ) ∧ fX3_noPair τ a1 a2 = some (0, τ)) ∨ (fX2_areTwoNodes σ a1 a2 = some (0, σ) ∧ fX3_noPair τ a1 a2 = some (1, τ)) := by
  have h10 := R.n10
  unfold fX2_areTwoNodes fX3_noPair
  rcases nodeC a1 (show n < 2147483648 by omega) with ⟨p, hp, rfl⟩ | hout
  · rw [X_isNode R.xn hp h10, M_noNode R.mn hp h10, bd2_e, bd2_e, if_neg z10, if_pos rfl]
    rcases nodeC a2 (show n < 2147483648 by omega) with ⟨q, hq, rfl⟩ | hout
    · rw [X_isNode R.xn hq h10, M_noNode R.mn hq h10, bd2_e, bd2_e, if_neg z10, if_pos rfl]
      by_cases h : p = q
      · subst h
        rw [if_pos rfl, if_pos rfl]
        exact Or.inr ⟨rfl, rfl⟩
      · rw [if_neg (nI_ne h (by omega) (by omega)), if_neg (nI_ne h (by omega) (by omega))]
        exact Or.inl ⟨p, q, hp, hq, h, rfl, rfl, rfl, rfl⟩
    · rw [X_isNode_out R.xn hout, M_noNode_out R.mn hout R.n2 h10, bd2_e, bd2_e, if_pos rfl, if_neg z10]
      exact Or.inr ⟨rfl, rfl⟩
  · rw [X_isNode_out R.xn hout, M_noNode_out R.mn hout R.n2 h10, bd2_e, bd2_e, if_pos rfl, if_neg z10]
    exact Or.inr ⟨rfl, rfl⟩
theorem ok_readLie {σ τ : St} {N : Nat} (hN : 2000 ≤ N) (H : Rl σ τ) (a1 a2 : Int32) : Ok (fX2_readLie N σ a1 a2) (fX3_readLie N τ a1 a2) := by
  have H0 := H
  obtain ⟨n, t, g, rule, len, r, R, V⟩ := H
  have h10 := R.n10
  obtain ⟨b1, b2, b3, b4, b4', b5, b6, b7, b8⟩ := R.B
  unfold fX2_readLie fX3_readLie
  rcases two_eq R a1 a2 with ⟨p, q, hp, hq, hpq, rfl, rfl, e1, e2⟩ | ⟨e1, e2⟩
  · rw [e1, e2, bd2_e, bd2_e, if_neg z10, if_pos rfl]
    unfold fX2_readTextInto
    rw [b5]
    obtain ⟨rx, rm, σ2, τ2, e1, e2, kx, km, hh⟩ := interval hN R.B
    rw [e1, e2, bd2_e, bd2_e]
    have R2 := R.kk kx km
    have V2 := V.kk kx km
    rcases hh with ⟨f, hf, rfl, rfl⟩ | ⟨rfl, rfl, j1, j2, l1, l2, l3, l4⟩
    · rw [if_neg (nI_m1 hf), if_neg (fault_neg hf), bd2_e]
      exact Ok.of rfl rfl ⟨_, _, _, _, _, _, R2, V2⟩
    · unfold fX1_parsedLow fX1_parsedHigh
      rw [if_pos rfl, bd2_e, bd2_e, if_neg (show ¬ isT 6 = false from by decide), X_putL _ _ (by omega), bd0_e, bd2_e, if_pos (Int32.le_refl _), ix01, if_neg (nI_in (by omega) (by omega)), lt1_e, if_neg (nI_in (by omega) (by omega)), lt1_e, nI_clamp (by omega)]
      refine Ok.of rfl rfl ⟨n, t, g, rule, len, r, ⟨R2.B, R2.xn, R2.mn, R2.n2, R2.n10, R2.xt, R2.mt, R2.t3, R2.xr, R2.mr, R2.r3, R2.ms, R2.s5, R2.md, R2.d3, R2.dd, R2.ma, ?_, R2.mi, R2.bi⟩, V2⟩
      intro k hk
      show vp_updL (gG τ2 2) (10 * p + q) (gJ τ2 1) k = vp_updL (gG σ2 2) (10 * p + q) (gJ σ2 1) k ∧ vp_updL (gG τ2 3) (10 * p + q) (gJ τ2 2) k = vp_updL (gG σ2 3) (10 * p + q) (gJ σ2 2) k
      rw [← j1, ← j2]
      by_cases e : k = 10 * p + q
      · subst e
        rw [pk_uLs, pk_uLs, pk_uLs, pk_uLs]
        exact ⟨rfl, rfl⟩
      · rw [pk_uLn e, pk_uLn e, pk_uLn e, pk_uLn e]
        exact R2.ml k hk
  · rw [e1, e2, bd2_e, bd2_e, if_pos rfl, if_neg z10]
    exact Ok.of rfl rfl H0
