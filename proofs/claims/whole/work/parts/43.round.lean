/-! one round -/
theorem X_put {σ : St} {k p : Nat} (v0 v1 : Int64) (h : 10 * k + p < 610) : fX0_put σ 3 (nI k) (nI p) v0 v1 = some (sG (sG σ 0 (vp_updL (gG σ 0) (10 * k + p) v0)) 1 (vp_updL (gG σ 1) (10 * k + p) v1)) := by
  unfold fX0_put
  rw [if_neg (show ¬ isT 3 = false from by decide), lt1_e, ix10, show k * 10 + p = 10 * k + p from by omega, if_neg (nI_pos (by omega)), if_neg (show ¬ isL (3 + 1) = false from by decide), if_neg (show ¬ Int32.ofNat (ln (3 + 1)) ≤ nI (10 * k + p) from nI_ge (b := 610) h (by omega)), if_neg (show ¬ isL (3 + 2) = false from by decide), if_pos (show nI (10 * k + p) < Int32.ofNat (ln (3 + 2)) from nI_lt (b := 610) h (by omega)), if_neg (nI_in (N := ln (3 + 1)) h (by decide)), lt1_e, if_neg (nI_in (N := ln (3 + 2)) h (by decide)), nI_clamp (by omega), lt1_e]
  rfl
/-- the reference writes an end of the next row -/
theorem M_put {τ : St} {N r p s : Nat} {v : Int64} {q12 : St → Int32 → Int32 → Option St} (h3 : gI τ 3 = nI r) (hr : r < 60) (hp : p < 10) (hs : s < 2) : (gG τ 4 (20 * r + 2 * p + s) = v → fX3_round_49 N q12 τ (nI p) (nI s) 1 = q12 (sG τ 4 (vp_updL (gG τ 4) (20 * (r + 1) + 2 * p + s) v)) (nI p) (nI (s + 1))) ∧ (fX3_combined N τ = some (v, τ) → fX3_round_49 N q12 τ (nI p) (nI s) 0 = q12 (sG τ 4 (vp_updL (gG τ 4) (20 * (r + 1) + 2 * p + s) v)) (nI p) (nI (s + 1))) := by
  unfold fX3_round_49
  constructor
  · intro hv
    rw [if_neg z10, h3, M_end (by omega), bd2_e, ix21, if_neg (nI_in (by omega) (by omega)), nI_clamp (by omega), lt1_e, lt1_e, nI_1, hv]
  · intro hv
    rw [if_pos rfl, hv, bd2_e, h3, ix21, if_neg (nI_in (by omega) (by omega)), nI_clamp (by omega), lt1_e, lt1_e, nI_1]
/-- one end of one node -/
theorem next_eq {σ τ : St} {n t g rule len N r p : Nat} {hi : Int32} (hN : 2000 ≤ N) (R : RP σ τ n t g rule len) (V : RV σ τ n r) (hr : r < 60) (hp : p < n) (q98 : St → Int32 → Option St) (q12 : St → Int32 → Int32 → Option St) :
    ∃ (m : Nat) (f f' : Nat → Int64) (v : Int64), fX3_round_12b N q98 q12 τ (nI p) (nI (sd hi)) = q12 (sG (sG (sI τ 7 (nI m)) 5 f') 4 (vp_updL (gG τ 4) (20 * (r + 1) + 2 * p + sd hi) v)) (nI p) (nI (sd hi + 1)) ∧ (cor σ p = true → fX2_nextEnd N σ (nI p) hi = some (v, sG σ 5 f) ∧ bnd v) := by
  have h10 := R.n10
  have h3 := R.t3
  have hs := sd_lt hi
  obtain ⟨m, f, f', g1, g2, g3⟩ := gather_eq (hi := hi) hN R V hp
  have R' := RP_got f f' (nI m) R
  have V' := RV_got f f' (nI m) V
  have e3 : gI (sG (sI τ 7 (nI m)) 5 f') 3 = nI r := V'.2.1
  have hM : fX3_round_12b N q98 q12 τ (nI p) (nI (sd hi)) = (if m ≤ 2 * t then fX3_round_49 N q12 (sG (sI τ 7 (nI m)) 5 f') (nI p) (nI (sd hi)) 1 else if cor σ p = true then fX3_round_49 N q12 (sG (sI τ 7 (nI m)) 5 f') (nI p) (nI (sd hi)) 0 else fX3_round_49 N q12 (sG (sI τ 7 (nI m)) 5 f') (nI p) (nI (sd hi)) 1) := by
    unfold fX3_round_12b fX3_round_44
    rw [if_neg (cL_nle 2 (by omega) (by omega)), g2, bd0_e, show gI (sG (sI τ 7 (nI m)) 5 f') 7 = nI m from rfl, show gI (sG (sI τ 7 (nI m)) 5 f') 1 = nI t from R'.mt, li2, pk_mul, M_isCorrect R' hp, bd2_e, cor_got]
    by_cases hl : m ≤ 2 * t
    · rw [if_pos (nI_le hl (by omega)), if_pos hl]
    · rw [if_neg (nI_nge (by omega) (by omega)), if_neg hl]
      by_cases hc : cor σ p = true
      · rw [if_pos hc, if_pos hc, if_neg z10]
      · rw [if_neg hc, if_neg hc, if_pos rfl]
  rw [hM]
  by_cases hl : m ≤ 2 * t
  · rw [if_pos hl]
    refine ⟨m, f, f', _, (M_put (v := gG τ 4 (20 * r + 2 * p + sd hi)) e3 hr (by omega) hs).1 rfl, fun hc => ?_⟩
    have hv := V.2.2.2 r p (sd hi) (Nat.le_refl _) hp hs (cor_t.mp hc)
    unfold fX2_nextEnd
    rw [(g3 hc).2, bd2_e, show m - 2 * t = 0 from by omega, if_pos (show nI 0 ≤ 0 from by decide), show gI (sG σ 5 f) 3 = nI r from V.1, X_end _ (by omega), bd2_e, hv.1]
    exact ⟨rfl, hv.2⟩
  · rw [if_neg hl]
    by_cases hc : cor σ p = true
    · rw [if_pos hc]
      obtain ⟨v, c1, c2, c3⟩ := combined_eq (σ := sG σ 5 f) (τ := sG (sI τ 7 (nI m)) 5 f') (m := m) hN R'.xt R'.mt R'.xr R'.mr h3 R.r3 (g3 hc).1 (by omega) rfl (by omega)
      refine ⟨m, f, f', v, (M_put (v := v) e3 hr (by omega) hs).2 c2, fun _ => ⟨?_, c3⟩⟩
      unfold fX2_nextEnd
      rw [(g3 hc).2, bd2_e, if_neg (nI_nle (by omega) (by omega)), c1, bd2_e]
    · rw [if_neg hc]
      exact ⟨m, f, f', _, (M_put (v := gG τ 4 (20 * r + 2 * p + sd hi)) e3 hr (by omega) hs).1 rfl, fun h => absurd h hc⟩
/-- what a round leaves as it is -/
def xE (r : Nat) (σ σ' : St) : Prop := (∀ j, gI σ' j = gI σ j) ∧ (∀ j, gJ σ' j = gJ σ j) ∧ (∀ a, gF σ' a = gF σ a) ∧ (∀ a, a ≠ 0 → a ≠ 1 → a ≠ 5 → gG σ' a = gG σ a) ∧ (∀ k, k < 10 * (r + 1) → gG σ' 0 k = gG σ 0 k ∧ gG σ' 1 k = gG σ 1 k)
def mE (r : Nat) (τ τ' : St) : Prop := (∀ j, j ≠ 7 → gI τ' j = gI τ j) ∧ (∀ j, gJ τ' j = gJ τ j) ∧ (∀ a, gF τ' a = gF τ a) ∧ (∀ a, a ≠ 4 → a ≠ 5 → gG τ' a = gG τ a) ∧ (∀ k, k < 20 * (r + 1) → gG τ' 4 k = gG τ 4 k)
theorem xE.rf {r : Nat} {σ : St} : xE r σ σ := ⟨fun _ => rfl, fun _ => rfl, fun _ => rfl, fun _ _ _ _ => rfl, fun _ _ => ⟨rfl, rfl⟩⟩
theorem mE.rf {r : Nat} {τ : St} : mE r τ τ := ⟨fun _ _ => rfl, fun _ => rfl, fun _ => rfl, fun _ _ _ => rfl, fun _ _ => rfl⟩
theorem xE.tr {r : Nat} {a b c : St} (h : xE r a b) (k : xE r b c) : xE r a c := ⟨fun j => (k.1 j).trans (h.1 j), fun j => (k.2.1 j).trans (h.2.1 j), fun j => (k.2.2.1 j).trans (h.2.2.1 j), fun j h0 h1 h5 => (k.2.2.2.1 j h0 h1 h5).trans (h.2.2.2.1 j h0 h1 h5), fun j hj => ⟨(k.2.2.2.2 j hj).1.trans (h.2.2.2.2 j hj).1, (k.2.2.2.2 j hj).2.trans (h.2.2.2.2 j hj).2⟩⟩
theorem mE.tr {r : Nat} {a b c : St} (h : mE r a b) (k : mE r b c) : mE r a c := ⟨fun j h7 => (k.1 j h7).trans (h.1 j h7), fun j => (k.2.1 j).trans (h.2.1 j), fun j => (k.2.2.1 j).trans (h.2.2.1 j), fun j h4 h5 => (k.2.2.2.1 j h4 h5).trans (h.2.2.2.1 j h4 h5), fun j hj => (k.2.2.2.2 j hj).trans (h.2.2.2.2 j hj)⟩
theorem xE.g5 (r : Nat) (σ : St) (f : Nat → Int64) : xE r σ (sG σ 5 f) := ⟨fun _ => rfl, fun _ => rfl, fun _ => rfl, fun a _ _ h5 => by rw [gG_sG, if_neg h5], fun _ _ => ⟨rfl, rfl⟩⟩
theorem xE.put {r : Nat} (σ : St) (p : Nat) (v0 v1 : Int64) : xE r σ (sG (sG σ 0 (vp_updL (gG σ 0) (10 * (r + 1) + p) v0)) 1 (vp_updL (gG σ 1) (10 * (r + 1) + p) v1)) :=
  ⟨fun _ => rfl, fun _ => rfl, fun _ => rfl, fun a h0 h1 _ => by rw [gG_sG, if_neg h1, gG_sG, if_neg h0], fun k hk => ⟨pk_uLn (by omega), pk_uLn (by omega)⟩⟩
theorem mE.put {r : Nat} (τ : St) (m p s : Nat) (f' : Nat → Int64) (v : Int64) : mE r τ (sG (sG (sI τ 7 (nI m)) 5 f') 4 (vp_updL (gG τ 4) (20 * (r + 1) + 2 * p + s) v)) :=
  ⟨fun j h7 => by rw [gI_sG, gI_sG, gI_sI, if_neg h7], fun _ => rfl, fun _ => rfl, fun a h4 h5 => by rw [gG_sG, if_neg h4, gG_sG, if_neg h5]; rfl, fun k hk => pk_uLn (by omega)⟩
theorem RP.keep {σ τ σ' τ' : St} {n t g rule len r r' : Nat} (R : RP σ τ n t g rule len) (hx : xE r σ σ') (hm : mE r' τ τ') : RP σ' τ' n t g rule len := by
  obtain ⟨⟨b1, b2, b3, b4, b4', b5, b6, b7, b8⟩, a1, a2, a3, a4, a5, a6, a7, a8, a9, a10, a11, a12, a13, a14, a15, a16, a17, a18, a19⟩ := R
  refine ⟨⟨(hx.1 5).trans b1, (hm.1 4 (by decide)).trans b2, b3, ?_, ?_, (hx.1 2).trans b5, (hm.2.1 0).trans b6, b7, b8⟩, (hx.1 0).trans a1, (hm.1 0 (by decide)).trans a2, a3, a4, (hx.1 1).trans a5, (hm.1 1 (by decide)).trans a6, a7, (hx.1 4).trans a8, (hm.1 2 (by decide)).trans a9, a10, ?_, ?_, ?_, ?_, ?_, ?_, ?_, ?_, ?_⟩
  · intro j hj; rw [hm.2.2.1, hx.2.2.1]; exact b4 j hj
  · intro j hj; rw [hx.2.2.1]; exact b4' j hj
  · intro j hj; rw [hm.2.2.1, hx.2.2.1]; exact a11 j hj
  · intro j hj; rw [hx.2.2.1]; exact a12 j hj
  · intro j hj; rw [hm.2.2.1, hx.2.2.1]; exact a13 j hj
  · intro j hj; rw [hx.2.2.1]; exact a14 j hj
  · intro j hj; rw [hx.2.2.1]; exact a15 j hj
  · intro j hj; rw [hx.2.2.1, hm.2.2.2.1 1 (by decide) (by decide), hx.2.2.2.1 4 (by decide) (by decide) (by decide)]; exact a16 j hj
  · intro j hj; rw [hm.2.2.2.1 2 (by decide) (by decide), hm.2.2.2.1 3 (by decide) (by decide), hx.2.2.2.1 2 (by decide) (by decide) (by decide), hx.2.2.2.1 3 (by decide) (by decide) (by decide)]; exact a17 j hj
  · intro j hj
    rw [hm.2.2.2.1 0 (by decide) (by decide), hm.2.2.2.2 _ (by omega), hm.2.2.2.2 _ (by omega), (hx.2.2.2.2 j (by omega)).1, (hx.2.2.2.2 j (by omega)).2]
    exact a18 j hj
  · intro j hj
    rw [(hx.2.2.2.2 j (by omega)).1, (hx.2.2.2.2 j (by omega)).2]
    exact a19 j hj
theorem val_keep {σ σ' : St} {r k p s : Nat} (hx : xE r σ σ') (hk : k ≤ r) (hp : p < 10) : val σ' k p s = val σ k p s := by
  unfold val
  rw [(hx.2.2.2.2 (10 * k + p) (by omega)).1, (hx.2.2.2.2 (10 * k + p) (by omega)).2]
theorem RV.keep {σ τ σ' τ' : St} {n r : Nat} (V : RV σ τ n r) (h10 : n ≤ 10) (hx : xE r σ σ') (hm : mE r τ τ') : RV σ' τ' n r := by
  refine ⟨(hx.1 3).trans V.1, (hm.1 3 (by decide)).trans V.2.1, V.2.2.1, fun k p s hk hp hs hc => ?_⟩
  rw [hx.2.2.1] at hc
  rw [val_keep hx hk (by omega), hm.2.2.2.2 _ (by omega)]
  exact V.2.2.2 k p s hk hp hs hc
theorem cor_keep {σ σ' : St} {r p : Nat} (hx : xE r σ σ') : cor σ' p = cor σ p := by
  unfold cor; rw [hx.2.2.1]
/-- the next row, up to a node -/
def rowR (σ τ : St) (k i : Nat) : Prop := ∀ p s, p < i → s < 2 → cor σ p = true → gG τ 4 (20 * k + 2 * p + s) = val σ k p s ∧ bnd (val σ k p s)
theorem node_eq {σ τ : St} {n t g rule len N r p : Nat} (hN : 2000 ≤ N) (R : RP σ τ n t g rule len) (V : RV σ τ n r) (hr : r < 60) (hp : p < n) (hrow : rowR σ τ (r + 1) p) {q98 : St → Int32 → Option St} {q66 : St → Int32 → Int32 → Option St} (u1 u2 : Int32) :
    ∃ (σ' τ' : St), xE r σ σ' ∧ mE r τ τ' ∧ rowR σ' τ' (r + 1) (p + 1) ∧ fX3_round_12 N q98 N τ (nI p) (nI 0) = q98 τ' (nI p) ∧ (∀ fX, fX2_carryOut_18 N q66 (fX + 1) σ u1 u2 (nI p) = fX2_carryOut_18 N q66 fX σ' u1 u2 (nI (p + 1))) := by
  have h10 := R.n10
  obtain ⟨N1, rfl⟩ : ∃ f, N = f + 3 := ⟨N - 3, by omega⟩
  obtain ⟨m1, f1, f1', v1, a1, a2⟩ := next_eq (hi := 0) hN R V hr hp q98 (fX3_round_12 (N1 + 3) q98 (N1 + 2))
  have E1 := xE.g5 r σ f1
  have F1 := mE.put (r := r) τ m1 p 0 f1' v1
  have R1 := R.keep E1 F1
  have V1 := V.keep h10 E1 F1
  obtain ⟨m2, f2, f2', v2, b1, b2⟩ := next_eq (hi := 1) hN R1 V1 hr hp q98 (fX3_round_12 (N1 + 3) q98 (N1 + 1))
  have F2 := mE.put (r := r) (sG (sG (sI τ 7 (nI m1)) 5 f1') 4 (vp_updL (gG τ 4) (20 * (r + 1) + 2 * p + 0) v1)) m2 p 1 f2' v2
  have eM : fX3_round_12 (N1 + 3) q98 (N1 + 3) τ (nI p) (nI 0) = q98 (sG (sG (sI (sG (sG (sI τ 7 (nI m1)) 5 f1') 4 (vp_updL (gG τ 4) (20 * (r + 1) + 2 * p + 0) v1)) 7 (nI m2)) 5 f2') 4 (vp_updL (vp_updL (gG τ 4) (20 * (r + 1) + 2 * p + 0) v1) (20 * (r + 1) + 2 * p + 1) v2)) (nI p) := by
    refine Eq.trans a1 (Eq.trans b1 ?_)
    show fX3_round_12b (N1 + 3) q98 _ _ _ (nI 2) = _
    unfold fX3_round_12b
    rw [if_pos (cL_le 2 (Nat.le_refl _) (by omega))]
    rfl
  by_cases hc : cor σ p = true
  · have c1 := a2 hc
    have c2 := b2 hc
    have X1 := (E1.tr (xE.g5 r _ f2)).tr (xE.put (r := r) (sG (sG σ 5 f1) 5 f2) p v1 v2)
    refine ⟨_, _, X1, F1.tr F2, ?_, eM, fun fX => ?_⟩
    · intro p' s hp' hs hc'
      have hcp : cor σ p' = true := (cor_keep X1).symm.trans hc'
      by_cases hpp : p' = p
      · subst hpp
        rcases (show s = 0 ∨ s = 1 by omega) with rfl | rfl
        · have e1 : val (sG (sG (sG (sG σ 5 f1) 5 f2) 0 (vp_updL (gG (sG (sG σ 5 f1) 5 f2) 0) (10 * (r + 1) + p') v1)) 1 (vp_updL (gG (sG (sG σ 5 f1) 5 f2) 1) (10 * (r + 1) + p') v2)) (r + 1) p' 0 = v1 := pk_uLs
          refine ⟨Eq.trans ?_ e1.symm, by rw [e1]; exact c1.2⟩
          show vp_updL (vp_updL (gG τ 4) (20 * (r + 1) + 2 * p' + 0) v1) (20 * (r + 1) + 2 * p' + 1) v2 _ = _
          rw [pk_uLn (by omega), pk_uLs]
        · have e1 : val (sG (sG (sG (sG σ 5 f1) 5 f2) 0 (vp_updL (gG (sG (sG σ 5 f1) 5 f2) 0) (10 * (r + 1) + p') v1)) 1 (vp_updL (gG (sG (sG σ 5 f1) 5 f2) 1) (10 * (r + 1) + p') v2)) (r + 1) p' 1 = v2 := pk_uLs
          refine ⟨Eq.trans ?_ e1.symm, by rw [e1]; exact c2.2⟩
          show vp_updL (vp_updL (gG τ 4) (20 * (r + 1) + 2 * p' + 0) v1) (20 * (r + 1) + 2 * p' + 1) v2 _ = _
          rw [pk_uLs]
      · have e1 : val (sG (sG (sG (sG σ 5 f1) 5 f2) 0 (vp_updL (gG (sG (sG σ 5 f1) 5 f2) 0) (10 * (r + 1) + p) v1)) 1 (vp_updL (gG (sG (sG σ 5 f1) 5 f2) 1) (10 * (r + 1) + p) v2)) (r + 1) p' s = val σ (r + 1) p' s := by
          unfold val
          by_cases hs0 : s = 0
          · rw [if_pos hs0, if_pos hs0]; exact pk_uLn (by omega)
          · rw [if_neg hs0, if_neg hs0]; exact pk_uLn (by omega)
        have h := hrow p' s (by omega) hs hcp
        refine ⟨Eq.trans ?_ e1.symm, by rw [e1]; exact h.2⟩
        show vp_updL (vp_updL (gG τ 4) (20 * (r + 1) + 2 * p + 0) v1) (20 * (r + 1) + 2 * p + 1) v2 _ = _
        rw [pk_uLn (by omega), pk_uLn (by omega)]
        exact h.1
    · show fX2_carryOut_18b (N1 + 3) q66 (fX2_carryOut_18 (N1 + 3) q66 fX) σ u1 u2 (nI p) = _
      unfold fX2_carryOut_18b
      rw [R.xn, if_neg (nI_nge (by omega) (by omega)), X_isCorrect R.xn hp h10, bd2_e, if_pos hc, if_neg z10, c1.1, bd2_e, c2.1, bd2_e, V.1, nI_1, X_put _ _ (by omega), bd0_e, lt1_e, nI_1]
  · refine ⟨σ, _, xE.rf, F1.tr F2, ?_, eM, fun fX => ?_⟩
    · intro p' s hp' hs hc'
      have hpp : p' ≠ p := fun e => hc (e ▸ hc')
      have h := hrow p' s (by omega) hs hc'
      refine ⟨Eq.trans ?_ h.1, h.2⟩
      show vp_updL (vp_updL (gG τ 4) (20 * (r + 1) + 2 * p + 0) v1) (20 * (r + 1) + 2 * p + 1) v2 _ = _
      rw [pk_uLn (by omega), pk_uLn (by omega)]
    · show fX2_carryOut_18b (N1 + 3) q66 (fX2_carryOut_18 (N1 + 3) q66 fX) σ u1 u2 (nI p) = _
      unfold fX2_carryOut_18b
      rw [R.xn, if_neg (nI_nge (by omega) (by omega)), X_isCorrect R.xn hp h10, bd2_e, if_neg hc, if_pos rfl, lt1_e, nI_1]
/-- all nodes -/
theorem nodes_eq {n t g rule len N r : Nat} (hN : 2000 ≤ N) (hr : r < 60) {q104 : St → Option St} {q66 : St → Int32 → Int32 → Option St} (u1 u2 : Int32) : ∀ (k i fX fM : Nat) (σ τ : St), RP σ τ n t g rule len → RV σ τ n r → rowR σ τ (r + 1) i → i + k = n → k < fX → k < fM →
    ∃ (σ' τ' : St), xE r σ σ' ∧ mE r τ τ' ∧ rowR σ' τ' (r + 1) n ∧ fX3_round_2 N q104 fM τ (nI i) = q104 τ' ∧ fX2_carryOut_18 N q66 fX σ u1 u2 (nI i) = q66 σ' u1 u2 := by
  intro k
  induction k with
  | zero =>
    intro i fX fM σ τ R V hrow hi hfX hfM
    have h10 := R.n10
    obtain ⟨a, rfl⟩ : ∃ k, fX = k + 1 := ⟨fX - 1, by omega⟩
    obtain ⟨b, rfl⟩ : ∃ k, fM = k + 1 := ⟨fM - 1, by omega⟩
    have hin : i = n := by omega
    subst hin
    refine ⟨σ, τ, xE.rf, mE.rf, hrow, ?_, ?_⟩
    · show fX3_round_2b N q104 _ τ (nI i) = _
      unfold fX3_round_2b
      rw [R.mn, if_pos (nI_le (Nat.le_refl _) (by omega))]
    · show fX2_carryOut_18b N q66 _ σ u1 u2 (nI i) = _
      unfold fX2_carryOut_18b
      rw [R.xn, if_pos (nI_le (Nat.le_refl _) (by omega))]
  | succ k ih =>
    intro i fX fM σ τ R V hrow hi hfX hfM
    have h10 := R.n10
    obtain ⟨a, rfl⟩ : ∃ k, fX = k + 1 := ⟨fX - 1, by omega⟩
    obtain ⟨b, rfl⟩ : ∃ k, fM = k + 1 := ⟨fM - 1, by omega⟩
    obtain ⟨σ1, τ1, x1, m1, w1, e1, e2⟩ := node_eq (p := i) (q98 := fun σ57 x56 => lt1 (x56 + (1 : Int32)) fun x59 => fX3_round_2 N q104 b σ57 x59) (q66 := q66) hN R V hr (by omega) hrow u1 u2
    obtain ⟨σ2, τ2, x2, m2, w2, e3, e4⟩ := ih (i + 1) a b σ1 τ1 (R.keep x1 m1) (V.keep h10 x1 m1) w1 (by omega) (by omega) (by omega)
    refine ⟨σ2, τ2, x1.tr x2, m1.tr m2, w2, ?_, (e2 a).trans e4⟩
    have eM : fX3_round_2 N q104 (b + 1) τ (nI i) = fX3_round_2b N q104 (fX3_round_2 N q104 b) τ (nI i) := rfl
    unfold fX3_round_2b at eM
    rw [R.mn, if_neg (nI_nge (by omega) (by omega))] at eM
    have eM := eM.trans e1
    rw [lt1_e, nI_1] at eM
    exact eM.trans e3
/-- what several rounds leave as it is: all but rounds, values, what is gathered -/
def xK (σ σ' : St) : Prop := (∀ j, j ≠ 3 → gI σ' j = gI σ j) ∧ (∀ j, gJ σ' j = gJ σ j) ∧ (∀ a, gF σ' a = gF σ a) ∧ (∀ a, a ≠ 0 → a ≠ 1 → a ≠ 5 → gG σ' a = gG σ a) ∧ (∀ k, k < 10 → gG σ' 0 k = gG σ 0 k ∧ gG σ' 1 k = gG σ 1 k)
def mK (τ τ' : St) : Prop := (∀ j, j ≠ 3 → j ≠ 7 → gI τ' j = gI τ j) ∧ (∀ j, gJ τ' j = gJ τ j) ∧ (∀ a, gF τ' a = gF τ a) ∧ (∀ a, a ≠ 4 → a ≠ 5 → gG τ' a = gG τ a) ∧ (∀ k, k < 20 → gG τ' 4 k = gG τ 4 k)
theorem xK.rf {σ : St} : xK σ σ := ⟨fun _ _ => rfl, fun _ => rfl, fun _ => rfl, fun _ _ _ _ => rfl, fun _ _ => ⟨rfl, rfl⟩⟩
theorem mK.rf {τ : St} : mK τ τ := ⟨fun _ _ _ => rfl, fun _ => rfl, fun _ => rfl, fun _ _ _ => rfl, fun _ _ => rfl⟩
theorem xK.tr {a b c : St} (h : xK a b) (k : xK b c) : xK a c := ⟨fun j h3 => (k.1 j h3).trans (h.1 j h3), fun j => (k.2.1 j).trans (h.2.1 j), fun j => (k.2.2.1 j).trans (h.2.2.1 j), fun j h0 h1 h5 => (k.2.2.2.1 j h0 h1 h5).trans (h.2.2.2.1 j h0 h1 h5), fun j hj => ⟨(k.2.2.2.2 j hj).1.trans (h.2.2.2.2 j hj).1, (k.2.2.2.2 j hj).2.trans (h.2.2.2.2 j hj).2⟩⟩
theorem mK.tr {a b c : St} (h : mK a b) (k : mK b c) : mK a c := ⟨fun j h3 h7 => (k.1 j h3 h7).trans (h.1 j h3 h7), fun j => (k.2.1 j).trans (h.2.1 j), fun j => (k.2.2.1 j).trans (h.2.2.1 j), fun j h4 h5 => (k.2.2.2.1 j h4 h5).trans (h.2.2.2.1 j h4 h5), fun j hj => (k.2.2.2.2 j hj).trans (h.2.2.2.2 j hj)⟩
theorem xK.i3 (σ : St) (v : Int32) : xK σ (sI σ 3 v) := ⟨fun j h3 => by rw [gI_sI, if_neg h3], fun _ => rfl, fun _ => rfl, fun _ _ _ _ => rfl, fun _ _ => ⟨rfl, rfl⟩⟩
theorem mK.i3 (τ : St) (v : Int32) : mK τ (sI τ 3 v) := ⟨fun j h3 _ => by rw [gI_sI, if_neg h3], fun _ => rfl, fun _ => rfl, fun _ _ _ => rfl, fun _ _ => rfl⟩
theorem xE.K {r : Nat} {σ σ' : St} (h : xE r σ σ') : xK σ σ' := ⟨fun j _ => h.1 j, h.2.1, h.2.2.1, h.2.2.2.1, fun k hk => h.2.2.2.2 k (by omega)⟩
theorem mE.K {r : Nat} {τ τ' : St} (h : mE r τ τ') : mK τ τ' := ⟨fun j _ h7 => h.1 j h7, h.2.1, h.2.2.1, h.2.2.2.1, fun k hk => h.2.2.2.2 k (by omega)⟩
theorem corK {σ σ' : St} (h : xK σ σ') (p : Nat) : cor σ' p = cor σ p := by
  unfold cor; rw [h.2.2.1]
theorem RP.keepK {σ τ σ' τ' : St} {n t g rule len : Nat} (R : RP σ τ n t g rule len) (hx : xK σ σ') (hm : mK τ τ') : RP σ' τ' n t g rule len := by
  obtain ⟨⟨b1, b2, b3, b4, b4', b5, b6, b7, b8⟩, a1, a2, a3, a4, a5, a6, a7, a8, a9, a10, a11, a12, a13, a14, a15, a16, a17, a18, a19⟩ := R
  refine ⟨⟨(hx.1 5 (by decide)).trans b1, (hm.1 4 (by decide) (by decide)).trans b2, b3, ?_, ?_, (hx.1 2 (by decide)).trans b5, (hm.2.1 0).trans b6, b7, b8⟩, (hx.1 0 (by decide)).trans a1, (hm.1 0 (by decide) (by decide)).trans a2, a3, a4, (hx.1 1 (by decide)).trans a5, (hm.1 1 (by decide) (by decide)).trans a6, a7, (hx.1 4 (by decide)).trans a8, (hm.1 2 (by decide) (by decide)).trans a9, a10, ?_, ?_, ?_, ?_, ?_, ?_, ?_, ?_, ?_⟩
  · intro j hj; rw [hm.2.2.1, hx.2.2.1]; exact b4 j hj
  · intro j hj; rw [hx.2.2.1]; exact b4' j hj
  · intro j hj; rw [hm.2.2.1, hx.2.2.1]; exact a11 j hj
  · intro j hj; rw [hx.2.2.1]; exact a12 j hj
  · intro j hj; rw [hm.2.2.1, hx.2.2.1]; exact a13 j hj
  · intro j hj; rw [hx.2.2.1]; exact a14 j hj
  · intro j hj; rw [hx.2.2.1]; exact a15 j hj
  · intro j hj; rw [hx.2.2.1, hm.2.2.2.1 1 (by decide) (by decide), hx.2.2.2.1 4 (by decide) (by decide) (by decide)]; exact a16 j hj
  · intro j hj; rw [hm.2.2.2.1 2 (by decide) (by decide), hm.2.2.2.1 3 (by decide) (by decide), hx.2.2.2.1 2 (by decide) (by decide) (by decide), hx.2.2.2.1 3 (by decide) (by decide) (by decide)]; exact a17 j hj
  · intro j hj
    rw [hm.2.2.2.1 0 (by decide) (by decide), hm.2.2.2.2 _ (by omega), hm.2.2.2.2 _ (by omega), (hx.2.2.2.2 j (by omega)).1, (hx.2.2.2.2 j (by omega)).2]
    exact a18 j hj
  · intro j hj
    rw [(hx.2.2.2.2 j (by omega)).1, (hx.2.2.2.2 j (by omega)).2]
    exact a19 j hj
/-- a round -/
theorem round_eq {σ τ : St} {n t g rule len N r fX : Nat} (hN : 2000 ≤ N) (R : RP σ τ n t g rule len) (V : RV σ τ n r) (hr : r < 60) {q82 : St → Option St} (c i : Nat) (hi : i < c) (hc : c < 2147483648) :
    ∃ (σ' τ' : St), xK σ σ' ∧ mK τ τ' ∧ RP σ' τ' n t g rule len ∧ RV σ' τ' n (r + 1) ∧ fX3_round N τ = some τ' ∧ fX2_carryOut_2 N q82 (fX + 1) σ (nI c) (nI i) = fX2_carryOut_2 N q82 fX σ' (nI c) (nI (i + 1)) := by
  have h10 := R.n10
  obtain ⟨σ1, τ1, x1, m1, w, e1, e2⟩ := nodes_eq (q104 := fun σ61 => lt1 (sI σ61 3 ((gI σ61 3) + (1 : Int32))) fun σ63 => some σ63) (q66 := fun σ41 x39 x40 => lt1 (sI σ41 3 ((gI σ41 3) + (1 : Int32))) fun σ43 => lt1 (x40 + (1 : Int32)) fun x45 => fX2_carryOut_2 N q82 fX σ43 x39 x45) hN hr (nI c) (nI i) n 0 N N σ τ R V (fun p s hp => by omega) (by omega) (by omega) (by omega)
  have R1 := R.keep x1 m1
  have V1 := V.keep h10 x1 m1
  have kx := x1.K.tr (xK.i3 σ1 (nI (r + 1)))
  have km := m1.K.tr (mK.i3 τ1 (nI (r + 1)))
  refine ⟨sI σ1 3 (nI (r + 1)), sI τ1 3 (nI (r + 1)), kx, km, R.keepK kx km, ⟨rfl, rfl, by omega, ?_⟩, ?_, ?_⟩
  · intro k p s hk hp hs hcp
    by_cases hkr : k = r + 1
    · subst hkr
      exact w p s hp hs (cor_t.mpr hcp)
    · exact V1.2.2.2 k p s (by omega) hp hs hcp
  · unfold fX3_round
    refine Eq.trans e1 ?_
    rw [lt1_e, V1.2.1, nI_1]
  · have eX : fX2_carryOut_2 N q82 (fX + 1) σ (nI c) (nI i) = fX2_carryOut_2b N q82 (fX2_carryOut_2 N q82 fX) σ (nI c) (nI i) := rfl
    unfold fX2_carryOut_2b at eX
    rw [if_neg (nI_nge hi (by omega)), V.1, if_neg (cL_nle 60 (by omega) (by omega))] at eX
    refine eX.trans (e2.trans ?_)
    rw [lt1_e, lt1_e, V1.1, nI_1, nI_1]
