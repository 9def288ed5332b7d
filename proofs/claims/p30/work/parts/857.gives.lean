/-! inputs and lies, typed and read -/
/-- what the law keeps -/
def Ig (σ : St) (n t g rule len r : Nat) : Prop := Iv σ n t g rule len r ∧ (fy σ n ≤ t → Hu σ n r)
theorem Ig.tk {σ σ' : St} {n t g rule len r : Nat} {l : List Nat} (I : Ig σ n t g rule len r) (h : Tk σ σ') (B : Tx σ' l) : Ig σ' n t g rule l.length r :=
  ⟨I.1.tk h B, fun hf => (I.2 (by rw [← fy_same (σ' := σ') h.cor]; exact hf)).tk h⟩
theorem Ig.co {σ σ' : St} {n t g rule len r : Nat} (I : Ig σ n t g rule len r) (h : Co n r σ σ') : Ig σ' n t g rule len r :=
  ⟨I.1.co h, fun hf => (I.2 (by rw [← fy_same (σ' := σ') h.cor]; exact hf)).co h⟩
theorem Ig.zero {σ : St} {n t g rule len : Nat} (I : Iv σ n t g rule len 0) : Ig σ n t g rule len 0 := ⟨I, fun _ => Hu.zero σ n⟩
theorem Iv.putIn {σ : St} {n t g rule len p : Nat} {v0 v1 : Int64} (I : Iv σ n t g rule len 0) (h0 : bnd v0) (h1 : bnd v1) : Iv (sG (sG σ 0 (vp_updL (gG σ 0) (10 * 0 + p) v0)) 1 (vp_updL (gG σ 1) (10 * 0 + p) v1)) n t g rule len 0 := by
  have hin : ∀ j, j < 10 → bnd (vp_updL (gG σ 0) (10 * 0 + p) v0 j) ∧ bnd (vp_updL (gG σ 1) (10 * 0 + p) v1 j) := fun j hj => by
    by_cases e : j = 10 * 0 + p
    · rw [e, pk_uLs, pk_uLs]; exact ⟨h0, h1⟩
    · rw [pk_uLn e, pk_uLn e]; exact I.bi j hj
  have h10 := I.n10
  obtain ⟨a1, a2, a3, a4, a5, a6, a7, a8, a9, a10, a11, a12, a13, a14, a15, a16, a17, a18, a19, a20⟩ := I
  refine ⟨a1, a2, a3, a4, a5, a6, a7, a8, a9, a10, a11, a12, a13, a14, a15, a16, a17, a18, hin, ?_⟩
  intro k j s hk hj hs hc
  have hk0 : k = 0 := by omega
  subst hk0
  rw [val_0]
  unfold inp
  by_cases e : s = 0
  · rw [if_pos e]; exact (hin j (by omega)).1
  · rw [if_neg e]; exact (hin j (by omega)).2
theorem Iv.putLie {σ : St} {n t g rule len r k : Nat} {v0 v1 : Int64} (I : Iv σ n t g rule len r) : Iv (sG (sG σ 2 (vp_updL (gG σ 2) k v0)) 3 (vp_updL (gG σ 3) k v1)) n t g rule len r := by
  obtain ⟨a1, a2, a3, a4, a5, a6, a7, a8, a9, a10, a11, a12, a13, a14, a15, a16, a17, a18, a19, a20⟩ := I
  exact ⟨a1, a2, a3, a4, a5, a6, a7, a8, a9, a10, a11, a12, a13, a14, a15, a16, a17, a18, a19, a20⟩
/-- a text that is an interval; a text that is none, from a place on -/
def Ps (N g : Nat) (σ : St) (v v' : Int64) : Prop := ∃ σ2 : St, fX1_parse N σ (nI g) = some (-1, σ2) ∧ kX σ σ2 ∧ gJ σ2 1 = v ∧ gJ σ2 2 = v'
def Px (N g : Nat) (σ : St) (k : Nat) : Prop := ∃ σ2 : St, fX1_parse N σ (nI g) = some (nI k, σ2) ∧ kX σ σ2
theorem nI_pm1 {k : Nat} (h : k ≤ 40) : ¬ nI k = (-1 : Int32) := nI_m1 h
/-- read into an input -/
theorem read_in {σ : St} {n t g rule len r p N : Nat} {v v' : Int64} {l : List Nat} (I : Ig σ n t g rule len r) (B : Tx σ l) (T : Ps N g σ v v') (hp : p < n) (h0 : bnd v) (h1 : bnd v') :
    (r = 0 ∧ ∃ σ', fX2_readInput N σ (nI p) = some (1, σ') ∧ Ig σ' n t g rule l.length r ∧ inp σ' p 0 = v ∧ inp σ' p 1 = v') ∨ (r ≠ 0 ∧ fX2_readInput N σ (nI p) = some (-1003, σ)) := by
  have h10 := I.1.n10
  have h60 := I.1.r60
  unfold fX2_readInput
  rw [I.1.node hp, bd2_e, if_neg z10, I.1.xr]
  by_cases hr : r = 0
  · subst hr
    obtain ⟨σ2, e1, k1, j1, j2⟩ := T
    left
    refine ⟨rfl, ?_⟩
    have I2 := I.tk k1.tk (k1.tx B)
    rw [if_pos (show nI 0 = 0 from rfl)]
    unfold fX2_readTextInto fX1_parsedLow fX1_parsedHigh
    rw [I.1.xg, e1, bd2_e, if_pos rfl, bd2_e, bd2_e, if_neg (show ¬ isT 3 = false from by decide), j1, j2, show fX0_put σ2 3 (0 : Int32) (nI p) v v' = _ from X_put (k := 0) v v' (by omega), bd0_e, bd2_e]
    refine ⟨_, rfl, Ig.zero (I2.1.putIn h0 h1), ?_, ?_⟩
    · show vp_updL (gG σ2 0) (10 * 0 + p) v p = v
      rw [show 10 * 0 + p = p from by omega, pk_uLs]
    · show vp_updL (gG σ2 1) (10 * 0 + p) v' p = v'
      rw [show 10 * 0 + p = p from by omega, pk_uLs]
  · right
    rw [if_neg (cR_ne 0 hr (by omega) (by omega))]
    exact ⟨hr, rfl⟩
/-- read into a lie -/
theorem read_lie {σ : St} {n t g rule len r p q N : Nat} {v v' : Int64} {l : List Nat} (I : Ig σ n t g rule len r) (B : Tx σ l) (T : Ps N g σ v v') (hp : p < n) (hq : q < n) (hpq : p ≠ q) : ∃ σ', fX2_readLie N σ (nI p) (nI q) = some (1, σ') ∧ Ig σ' n t g rule l.length r := by
  have h10 := I.1.n10
  obtain ⟨σ2, e1, k1, j1, j2⟩ := T
  have I2 := I.tk k1.tk (k1.tx B)
  unfold fX2_readLie
  rw [areTwo I.1 hp hq, bd2_e, if_neg hpq, if_neg z10]
  unfold fX2_readTextInto fX1_parsedLow fX1_parsedHigh
  rw [I.1.xg, e1, bd2_e, if_pos rfl, bd2_e, bd2_e, if_neg (show ¬ isT 6 = false from by decide), j1, j2, X_putL v v' (by omega), bd0_e, bd2_e]
  exact ⟨_, rfl, I2.1.putLie, fun hf => (I2.2 hf).same (fun _ => rfl) (fun _ _ _ _ _ _ _ => rfl)⟩
theorem read_lieX {σ : St} {n t g rule len r p q N k : Nat} {l : List Nat} (I : Ig σ n t g rule len r) (B : Tx σ l) (T : Px N g σ k) (hk : k ≤ 40) (hp : p < n) (hq : q < n) (hpq : p ≠ q) : ∃ σ', fX2_readLie N σ (nI p) (nI q) = some (-100 - nI k, σ') ∧ Ig σ' n t g rule l.length r ∧ Tx σ' l := by
  obtain ⟨σ2, e1, k1⟩ := T
  have I2 := I.tk k1.tk (k1.tx B)
  unfold fX2_readLie
  rw [areTwo I.1 hp hq, bd2_e, if_neg hpq, if_neg z10]
  unfold fX2_readTextInto
  rw [I.1.xg, e1, bd2_e, if_neg (nI_pm1 hk), bd2_e]
  exact ⟨σ2, rfl, I2, k1.tx B⟩
theorem mul_rng {z : Int} {g : Nat} (h1 : -1000 ≤ z) (h2 : z ≤ 1000) (hg : g ≤ 720720) : -(1000 * 720720) ≤ z * (g : Int) ∧ z * (g : Int) ≤ 1000 * 720720 := by
  have a := Int.mul_le_mul_of_nonneg_right h1 (show (0 : Int) ≤ g by omega)
  have b := Int.mul_le_mul_of_nonneg_right h2 (show (0 : Int) ≤ g by omega)
  omega
theorem quo {x : Int32} {g u c : Nat} (h1 : -1000 ≤ x.toInt) (h2 : x.toInt ≤ 1000) (hg : 1 ≤ g ∧ g ≤ 720720) (hu : 1 ≤ u) (hc : c * u = g) : (x.toInt64 * lN g / lN u).toInt = x.toInt * c := by
  obtain ⟨hg1, hg⟩ := hg
  have hug : u ≤ g := by
    rw [← hc]
    by_cases z : c = 0
    · subst z; omega
    · exact Nat.le_mul_of_pos_left u (by omega)
  have hcg : c ≤ g := by rw [← hc]; exact Nat.le_mul_of_pos_right c (by omega)
  have gT : (lN g).toInt = (g : Int) := pk_lT (by omega)
  have uT : (lN u).toInt = (u : Int) := pk_lT (by omega)
  have b1 : -(1000 * 720720) ≤ x.toInt * (g : Int) ∧ x.toInt * (g : Int) ≤ 1000 * 720720 := mul_rng h1 h2 hg
  have b2 : -(1000 * 720720) ≤ x.toInt * (c : Int) ∧ x.toInt * (c : Int) ≤ 1000 * 720720 := mul_rng h1 h2 (by omega)
  have m1 : (x.toInt64 * lN g).toInt = x.toInt * (g : Int) := by
    rw [fb_mulL (by rw [gT, Int32.toInt_toInt64]; omega) (by rw [gT, Int32.toInt_toInt64]; omega), gT, Int32.toInt_toInt64]
  have e : x.toInt * (g : Int) = (u : Int) * (x.toInt * (c : Int)) := by
    rw [← hc, Int.natCast_mul, Int.mul_comm (u : Int), Int.mul_assoc]
  rw [Int64.toInt_div, m1, uT, e, Int.mul_tdiv_cancel_left _ (by omega)]
  exact fb_bmodL (by omega) (by omega)
theorem ns_of {x : Int32} {g u c a : Nat} {ng : Bool} {da : List Nat} {db : Option (List Nat)} (hx : (ng = false ∧ x = nI a) ∨ (ng = true ∧ x.toInt = -(a : Int) ∧ 0 < a)) (ha : a ≤ 1000) (hg : 1 ≤ g ∧ g ≤ 720720) (hu : 1 ≤ u) (hc : c * u = g) (g1 : 1 ≤ da.length) (g2 : da.length ≤ 6) (g3 : dgs da) (g4 : vl 0 da = a) (g5 : ∀ d, db = some d → dgs d ∧ 1 ≤ d.length ∧ d.length ≤ 6) (g6 : dn db = u) : NS g ng da db (x.toInt64 * lN g / lN u) := by
  have hg2 := hg.2
  have hag : a * g = a * c * u := by rw [← hc, Nat.mul_assoc]
  have hdv : a * g / u = a * c := by rw [hag, Nat.mul_div_cancel _ (by omega)]
  have hcg : c ≤ g := by rw [← hc]; exact Nat.le_mul_of_pos_right c (by omega)
  have hb : a * c ≤ 1000 * 720720 := Nat.mul_le_mul ha (by omega)
  refine ⟨g3, g1, g2, g5, by omega, ?_, ?_, ?_⟩
  · rw [g4, g6]; exact Nat.le_trans ha (Nat.le_mul_of_pos_right 1000 (by omega))
  · rw [g4, g6, hag]; exact Nat.mul_mod_left _ _
  · rw [g4, g6, hdv, fa_eq64]
    have aT : (lN (a * c)).toInt = ((a * c : Nat) : Int) := pk_lT (by omega)
    rcases hx with ⟨rfl, rfl⟩ | ⟨rfl, hxi, ha0⟩
    · have xT : (nI a).toInt = (a : Int) := nI_toInt (by omega)
      rw [quo (by omega) (by omega) hg hu hc, xT]
      show _ = (if false = true then -lN (a * c) else lN (a * c)).toInt
      rw [if_neg Bool.false_ne_true, aT, Int.natCast_mul]
    · rw [quo (by omega) (by omega) hg hu hc, hxi]
      show _ = (if true = true then -lN (a * c) else lN (a * c)).toInt
      rw [if_pos rfl, Int64.toInt_neg, aT, fb_bmodL (by omega) (by omega), Int.natCast_mul, Int.neg_mul]
theorem sign_of (x : Int32) (h1 : -1000 ≤ x.toInt) (h2 : x.toInt ≤ 1000) : ∃ (ng : Bool) (a : Nat), a ≤ 1000 ∧ ((ng = false ∧ x = nI a) ∨ (ng = true ∧ x.toInt = -(a : Int) ∧ 0 < a)) := by
  by_cases h : 0 ≤ x.toInt
  · exact ⟨false, x.toInt.toNat, by omega, Or.inl ⟨rfl, by rw [fa_eq, nI_toInt (by omega)]; omega⟩⟩
  · exact ⟨true, (-x.toInt).toNat, by omega, Or.inr ⟨rfl, by omega, by omega⟩⟩
theorem gv_437 {σ : St} {n t g rule len N p : Nat} {v' : Int64} (hN : 2000 ≤ N) (I : Iv σ n t g rule len 0) (hp : p < n) (h1 : inp σ p 1 = v') : fL_gives_437 N σ (nI g) (nI p) 1 v' 1 = some (1, σ) := by
  have h10 := I.n10
  have hg7 := I.g7
  have hg1 := I.g1
  obtain ⟨s, hs5, hs⟩ := I.s5 p (by omega)
  unfold fL_gives_437
  rw [if_pos rfl, if_neg z10, X_strategy I hp, bd2_e, hs]
  by_cases h : s = 0
  · have hc : cor σ p = true := cor_t.mpr (by rw [hs, h]; rfl)
    have hb := bnd_u (I.bv 0 p 1 (Nat.le_refl _) hp (by omega) hc)
    have ev : val σ 0 p 1 = v' := by rw [val_0]; exact h1
    rw [ev] at hb
    have x1 := X_value (k := 0) (hi := 1) (z := 0) hN I hp (Nat.le_refl _) hc
    have x2 := X_value (k := 0) (hi := 1) (z := 1) hN I hp (Nat.le_refl _) hc
    rw [sd_1, ev] at x1 x2
    rw [if_neg (cL_nlt 0 (by omega) (by omega)), show fX2_value N σ (nI p) (0 : Int32) 1 0 = _ from x1, bd2_e, show fX2_value N σ (nI p) (0 : Int32) 1 1 = _ from x2, bd2_e, nI_l (by omega), (frac_u hg1 hg7 hb.1 hb.2).1, bd0_e, if_pos rfl]
  · rw [if_pos (cL_lt 0 (by omega) (by omega))]
theorem gv_376 {σ : St} {n t g rule len N p : Nat} {v v' : Int64} (hN : 2000 ≤ N) (I : Iv σ n t g rule len 0) (hp : p < n) (h0 : inp σ p 0 = v) (h1 : inp σ p 1 = v') : fL_gives_376 N σ (nI g) (nI p) 1 v v' = some (1, σ) := by
  have h10 := I.n10
  have hg7 := I.g7
  have hg1 := I.g1
  have hb := I.bi p (by omega)
  have b0 : bnd v := by rw [← h0]; exact hb.1
  have b1 : bnd v' := by rw [← h1]; exact hb.2
  have x1 := X_input (hi := 0) (z := 0) hN I hp
  have x2 := X_input (hi := 0) (z := 1) hN I hp
  have x3 := X_input (hi := 1) (z := 0) hN I hp
  have x4 := X_input (hi := 1) (z := 1) hN I hp
  rw [sd_0, h0] at x1 x2
  rw [sd_1, h1] at x3 x4
  unfold fL_gives_376
  rw [x1, bd2_e, x2, bd2_e, nI_l (by omega), (frac_u hg1 hg7 (bnd_u b0).1 (bnd_u b0).2).1, bd0_e, if_pos rfl, x3, bd2_e, x4, bd2_e, (frac_u hg1 hg7 (bnd_u b1).1 (bnd_u b1).2).1, bd0_e, if_pos rfl]
  exact gv_437 hN I hp h1
/-- typed and read: what comes of it -/
theorem gv_317 {σ : St} {n t g rule len r N p u : Nat} {v v' : Int64} {l : List Nat} {from' to single : Int32} (hN : 2000 ≤ N) (I : Ig σ n t g rule len r) (B : Tx σ l) (T : Ps N g σ v v') (hp : p < n) (h0 : bnd v) (h1 : bnd v') (hu : 1 ≤ u) (hu7 : u ≤ 720720) (hv : from'.toInt64 * lN g / lN u = v) (hv' : (single = 0 ∧ to.toInt64 * lN g / lN u = v') ∨ (¬ single = 0 ∧ v' = v)) : ∃ (σ' : St) (len' : Nat), fL_gives_317 N σ (nI g) (nI p) (nI u) from' to single (nI r) = some (1, σ') ∧ Ig σ' n t g rule len' r := by
  have hg7 := I.1.g7
  have h60 := I.1.r60
  unfold fL_gives_317
  rcases read_in I B T hp h0 h1 with ⟨hr, σ', e1, I', i0, i1⟩ | ⟨hr, e1⟩
  · subst hr
    refine ⟨σ', l.length, ?_, I'⟩
    rw [e1, bd2_e, if_pos (cR_le 0 (Nat.le_refl _) (by omega)), nI_l (n := u) (by omega), nI_l (n := g) (by omega), if_neg (dR_ne 0 (by omega) (by omega) (by omega)), lt1_e, hv]
    rcases hv' with ⟨hs, hv'⟩ | ⟨hs, hv'⟩
    · rw [if_pos hs, if_neg (dR_ne 0 (by omega) (by omega) (by omega)), hv']
      exact gv_376 hN I'.1 hp i0 i1
    · rw [if_neg hs]
      subst hv'
      exact gv_376 hN I'.1 hp i0 i1
  · refine ⟨σ, len, ?_, I⟩
    rw [e1, bd2_e, if_neg (cR_nle 0 (by omega) (by omega)), if_pos rfl]
theorem gv_285 {σ : St} {n t g rule len r N p q u : Nat} {v v' : Int64} {l : List Nat} {from' to single z : Int32} (hN : 2000 ≤ N) (I : Ig σ n t g rule len r) (B : Tx σ l) (T : Ps N g σ v v') (hp : p < n) (hq : q < n) (h0 : bnd v) (h1 : bnd v') (hu : 1 ≤ u) (hu7 : u ≤ 720720) (hv : from'.toInt64 * lN g / lN u = v) (hv' : (single = 0 ∧ to.toInt64 * lN g / lN u = v') ∨ (¬ single = 0 ∧ v' = v)) : ∃ (σ' : St) (len' : Nat), fL_gives_285 N σ (nI g) (nI p) (nI q) (nI u) from' to single (nI r) z = some (1, σ') ∧ Ig σ' n t g rule len' r := by
  have h10 := I.1.n10
  have key := gv_317 hN I B T hp h0 h1 hu hu7 hv hv'
  unfold fL_gives_285
  by_cases hz : z = 0
  · rw [if_pos hz]
    by_cases hpq : p = q
    · subst hpq
      rw [if_pos rfl]; exact key
    · obtain ⟨σ', e1, I'⟩ := read_lie I B T hp hq hpq
      rw [if_neg (nI_ne hpq (by omega) (by omega)), e1, bd2_e, if_pos rfl]
      exact ⟨σ', _, rfl, I'⟩
  · rw [if_neg hz]; exact key
theorem tx_len {σ : St} {l : List Nat} (B : Tx σ l) : l.length ≤ 40 := B.2.1
theorem gv_136 {σ : St} {n t g rule len r N p q u : Nat} {v v' : Int64} {l : List Nat} {from' to single a3 : Int32} (hN : 2000 ≤ N) (I : Ig σ n t g rule len r) (B : Tx σ l) (hl : l.length ≤ 30) (T1 : ∀ τ, Tx τ l → Ps N g τ v v') (T2 : ∀ τ, Tx τ (l ++ [120]) → Px N g τ l.length) (hp : p < n) (hq : q < n) (h0 : bnd v) (h1 : bnd v') (hu : 1 ≤ u) (hu7 : u ≤ 720720) (hv : from'.toInt64 * lN g / lN u = v) (hv' : (single = 0 ∧ to.toInt64 * lN g / lN u = v') ∨ (¬ single = 0 ∧ v' = v)) : ∃ (σ' : St) (len' : Nat), fL_gives_136 N σ (nI n) (nI g) a3 (nI p) (nI q) (nI u) from' to (nI l.length) single = some (1, σ') ∧ Ig σ' n t g rule len' r := by
  have h10 := I.1.n10
  have h2 := I.1.n2
  have hg7 := I.1.g7
  have hg1 := I.1.g1
  have key : ∀ z, ∃ (σ' : St) (len' : Nat), fL_gives_285 N σ (nI g) (nI p) (nI q) (nI u) from' to single (nI r) z = some (1, σ') ∧ Ig σ' n t g rule len' r := fun z => gv_285 hN I B (T1 σ B) hp hq h0 h1 hu hu7 hv hv'
  unfold fL_gives_136
  rw [(X_counts hN I.1).2.2.1, bd2_e]
  by_cases hw : ((a3 >>> ((10 : Int32) &&& 31)) &&& (7 : Int32)) = (0 : Int32)
  · rw [if_pos hw]
    have hmod : (p + 1) % n < n := Nat.mod_lt _ (by omega)
    have hne : p ≠ (p + 1) % n := fun z => by
      by_cases e : p + 1 = n
      · rw [e, Nat.mod_self] at z; omega
      · rw [Nat.mod_eq_of_lt (by omega)] at z; omega
    have enext : (nI p + (1 : Int32)) - (nI p + (1 : Int32)) / nI n * nI n = nI ((p + 1) % n) := by
      rw [nI_1, pk_rem (by omega) (by omega) (by omega)]
    obtain ⟨σ1, x1, B1, k1⟩ := X_type (c := 120) B (by omega) (by omega)
    have I1 := I.tk k1 B1
    obtain ⟨σ2, x2, I2, B2⟩ := read_lieX I1 B1 (T2 σ1 B1) (by omega) hp hmod hne
    obtain ⟨σ3, x3, B3, k3⟩ := X_clear I2.1
    have I3 := I2.tk k3 B3
    obtain ⟨σ4, da, db, a1, a2, a3', a4, a5, a6, a7, B4, k4, x4⟩ := L_number (N := N) (a := 5) (u := 1) (x := nI 5) (ng := false) hN (Or.inl ⟨rfl, rfl⟩) (by omega) (by omega) (by omega) B3 (by show 0 + 14 ≤ 40; omega)
    have I4 := I3.tk k4 B4
    have n1 := ns_of (g := g) (c := g) (u := 1) (Or.inl ⟨rfl, rfl⟩) (show 5 ≤ 1000 by omega) ⟨hg1, hg7⟩ (by omega) (by omega) a1 a2 a3' a4 a5 a6
    have l4 : ([] ++ nt false da db).length = (nt false da db).length := rfl
    obtain ⟨σ5, x5, B5, k5⟩ := X_type (c := 46) B4 (by rw [l4]; omega) (by omega)
    have l5 : ([] ++ nt false da db ++ [46]).length = (nt false da db).length + 1 := by rw [List.length_append]; rfl
    obtain ⟨σ6, x6, B6, k6⟩ := X_type (c := 46) B5 (by rw [l5]; omega) (by omega)
    have l6 : ([] ++ nt false da db ++ [46] ++ [46]).length = (nt false da db).length + 2 := by rw [List.length_append, l5]; rfl
    obtain ⟨σ7, da', db', c1, c2, c3, c4, c5, c6, c7, B7, k7, x7⟩ := L_number (N := N) (a := 1) (u := 1) (x := -1) (ng := true) hN (Or.inr ⟨rfl, rfl, by omega⟩) (by omega) (by omega) (by omega) B6 (by rw [l6]; omega)
    have n2 := ns_of (g := g) (c := g) (u := 1) (Or.inr ⟨rfl, show (-1 : Int32).toInt = -((1 : Nat) : Int) from rfl, by omega⟩) (show 1 ≤ 1000 by omega) ⟨hg1, hg7⟩ (by omega) (by omega) c1 c2 c3 c4 c5 c6
    have I7 := ((I4.tk k5 B5).tk k6 B6).tk k7 B7
    have e7 : [] ++ nt false da db ++ [46] ++ [46] ++ nt true da' db' = nt false da db ++ (46 :: 46 :: (nt true da' db' ++ [])) := by simp
    have B7' : Tx σ7 (nt false da db ++ (46 :: 46 :: (nt true da' db' ++ []))) := by rw [← e7]; exact B7
    have T7 : Px N g σ7 ((nt false da db).length + 2) := by
      obtain ⟨τ, y1, y2, -⟩ := X_parse2 hN hg7 n1 n2 B7' (fun z => by have : 48 ≤ 0 := z.1; omega) (by show 0 < 1000; omega) (by show 0 ≠ 47; omega)
      refine ⟨τ, ?_, y2⟩
      rw [if_neg (fun z => by
        rw [fa_le64, quo (c := g) (by rw [nI_toInt (by omega)]; omega) (by rw [nI_toInt (by omega)]; omega) ⟨hg1, hg7⟩ (by omega) (by omega), quo (c := g) (by decide) (by decide) ⟨hg1, hg7⟩ (by omega) (by omega), nI_toInt (by omega), show (-1 : Int32).toInt = -1 from rfl] at z
        omega)] at y1
      exact y1
    obtain ⟨σ8, x8, I8, B8⟩ := read_lieX I7 B7 T7 (by omega) hp hmod hne
    refine ⟨σ8, _, ?_, I8⟩
    rw [show fX2_type σ (120 : Int32) = _ from x1, bd2_e, if_neg (cR_ne 0 (by omega) (by omega) (by omega)), enext, x2, bd2_e, x3, bd2_e, show fL_number N σ3 (5 : Int32) (1 : Int32) = _ from x4, bd2_e, lt1_e, show fX2_type σ4 (46 : Int32) = _ from x5, bd2_e, show fX2_type σ5 (46 : Int32) = _ from x6, bd2_e, show fL_number N σ6 (-1 : Int32) (1 : Int32) = _ from x7, bd2_e, if_pos rfl, if_neg (cR_ne 0 (by omega) (by omega) (by omega)), x8, bd2_e, li2, nI_add, if_pos rfl]
    have x9 : fX2_readLie N σ8 (nI p) (nI p) = some (-1001, σ8) := by
      unfold fX2_readLie
      rw [areTwo I8.1 hp hp, bd2_e, if_pos rfl, if_pos rfl]
    have x10 : fX2_readInput N σ8 (nI n) = some (-1001, σ8) := by
      unfold fX2_readInput
      rw [I8.1.noNode, bd2_e, if_pos rfl]
    rw [x9, bd2_e, if_pos rfl, x10, bd2_e, if_pos rfl]
  · rw [if_neg hw]
    by_cases h2 : ((a3 >>> ((13 : Int32) &&& 31)) &&& (1 : Int32)) = (0 : Int32)
    · rw [if_pos h2]; exact key 1
    · rw [if_neg h2]; exact key 0
theorem bnd_q {x : Int32} {g u c : Nat} (h1 : -1000 ≤ x.toInt) (h2 : x.toInt ≤ 1000) (hg : 1 ≤ g ∧ g ≤ 720720) (hu : 1 ≤ u) (hc : c * u = g) : bnd (x.toInt64 * lN g / lN u) := by
  have hg2 := hg.2
  have hcg : c ≤ g := by rw [← hc]; exact Nat.le_mul_of_pos_right c (by omega)
  have b2 : -(1000 * 720720) ≤ x.toInt * (c : Int) ∧ x.toInt * (c : Int) ≤ 1000 * 720720 := mul_rng h1 h2 (by omega)
  unfold bnd
  rw [quo h1 h2 hg hu hc]
  omega
theorem gv_42 {σ : St} {n t g rule len r N p q u c : Nat} {a3 a4 : Int32} (hN : 2000 ≤ N) (I : Ig σ n t g rule len r) (B : Tx σ []) (hp : p < n) (hq : q < n) (hu : 1 ≤ u) (hc : c * u = g) : ∃ (σ' : St) (len' : Nat), fL_gives_42 N σ (nI n) (nI g) a3 a4 (nI p) (nI q) (nI u) = some (1, σ') ∧ Ig σ' n t g rule len' r := by
  have hg7 := I.1.g7
  have hg1 := I.1.g1
  have hug : u ≤ g := by
    rw [← hc]
    by_cases z : c = 0
    · subst z; omega
    · exact Nat.le_mul_of_pos_left u (by omega)
  obtain ⟨k1, hk1, e1⟩ := L_low (a4 >>> ((1 : Int32) &&& 31)) (n := 400) (by omega) (by omega)
  obtain ⟨k2, hk2, e2⟩ := L_low (a4 >>> ((9 : Int32) &&& 31)) (n := 300) (by omega) (by omega)
  have t200 : (200 : Int32).toInt = 200 := rfl
  have xT : (nI k1 - (200 : Int32)).toInt = (k1 : Int) - 200 := by
    rw [fb_subI (by rw [nI_toInt (by omega), t200]; omega) (by rw [nI_toInt (by omega), t200]; omega), nI_toInt (by omega), t200]
  have yT : (nI k1 - (200 : Int32) + nI k2).toInt = (k1 : Int) - 200 + k2 := by
    rw [fb_addI (by rw [xT, nI_toInt (by omega)]; omega) (by rw [xT, nI_toInt (by omega)]; omega), xT, nI_toInt (by omega)]
  unfold fL_gives_42
  rw [show fL_low (a4 >>> ((1 : Int32) &&& 31)) (400 : Int32) = _ from e1, bd0_e, lt1_e, show fL_low (a4 >>> ((9 : Int32) &&& 31)) (300 : Int32) = _ from e2, bd0_e, lt1_e]
  generalize hx : nI k1 - (200 : Int32) = x at *
  generalize hy : x + nI k2 = y at *
  obtain ⟨ng, a, ha, hxs⟩ := sign_of x (by omega) (by omega)
  obtain ⟨ng', a', ha', hys⟩ := sign_of y (by omega) (by omega)
  have b0 := bnd_q (x := x) (g := g) (u := u) (c := c) (by omega) (by omega) ⟨hg1, hg7⟩ hu hc
  have b1 := bnd_q (x := y) (g := g) (u := u) (c := c) (by omega) (by omega) ⟨hg1, hg7⟩ hu hc
  obtain ⟨σ1, da, db, a1, a2, a3', a4', a5, a6, a7, B1, k3, x1⟩ := L_number (N := N) (a := a) (u := u) (x := x) (ng := ng) hN hxs (by omega) hu (by omega) B (by show 0 + 14 ≤ 40; omega)
  have I1 := I.tk k3 B1
  have n1 := ns_of (g := g) (c := c) (u := u) hxs ha ⟨hg1, hg7⟩ hu hc a1 a2 a3' a4' a5 a6
  have B1 : Tx σ1 (nt ng da db) := B1
  rw [x1, bd2_e]
  have dg0 : ¬ Dg (([] : List Nat).headD 0) := fun z => by have : 48 ≤ 0 := z.1; omega
  have dg120 : ¬ Dg (([120] : List Nat).headD 0) := fun z => by have : 120 ≤ 57 := z.2; omega
  have one : ∃ (σ' : St) (len' : Nat), fL_gives_100 N σ1 (nI n) (nI g) a3 (nI p) (nI q) (nI u) x y (nI (nt ng da db).length) 1 = some (1, σ') ∧ Ig σ' n t g rule len' r := by
    unfold fL_gives_100
    rw [if_neg z10]
    refine gv_136 (v := x.toInt64 * lN g / lN u) (v' := x.toInt64 * lN g / lN u) hN I1 B1 (by omega) (fun τ Bt => ?_) (fun τ Bt => ?_) hp hq b0 b0 hu (by omega) rfl (Or.inr ⟨z10, rfl⟩)
    · obtain ⟨τ2, y1, y2, y3, y4⟩ := X_parse1 (post := []) hN hg7 n1 (by rw [List.append_nil]; exact Bt) dg0 (by show 0 < 1000; omega) (by show 0 ≠ 47; omega) (by show 0 ≠ 46; omega)
      rw [if_pos rfl] at y1
      exact ⟨τ2, y1, y2, y3, y4⟩
    · obtain ⟨τ2, y1, y2, -⟩ := X_parse1 (post := [120]) hN hg7 n1 Bt dg120 (by show 120 < 1000; omega) (by show 120 ≠ 47; omega) (by show 120 ≠ 46; omega)
      rw [if_neg (by simp)] at y1
      exact ⟨τ2, y1, y2⟩
  have two : ∃ (σ' : St) (len' : Nat), fL_gives_100 N σ1 (nI n) (nI g) a3 (nI p) (nI q) (nI u) x y (nI (nt ng da db).length) 0 = some (1, σ') ∧ Ig σ' n t g rule len' r := by
    obtain ⟨σ2, x2, B2, k4⟩ := X_type (c := 46) B1 (by omega) (by omega)
    have l2 : (nt ng da db ++ [46]).length = (nt ng da db).length + 1 := by rw [List.length_append]; rfl
    obtain ⟨σ3, x3, B3, k5⟩ := X_type (c := 46) B2 (by rw [l2]; omega) (by omega)
    have l3 : (nt ng da db ++ [46] ++ [46]).length = (nt ng da db).length + 2 := by rw [List.length_append, l2]; rfl
    obtain ⟨σ4, da', db', c1, c2, c3, c4, c5, c6, c7, B4, k6, x4⟩ := L_number (N := N) (a := a') (u := u) (x := y) (ng := ng') hN hys (by omega) hu (by omega) B3 (by rw [l3]; omega)
    have I4 := ((I1.tk k4 B2).tk k5 B3).tk k6 B4
    have n2 := ns_of (g := g) (c := c) (u := u) hys ha' ⟨hg1, hg7⟩ hu hc c1 c2 c3 c4 c5 c6
    have e4 : nt ng da db ++ [46] ++ [46] ++ nt ng' da' db' = nt ng da db ++ (46 :: 46 :: (nt ng' da' db' ++ [])) := by simp
    have l4 : (nt ng da db ++ (46 :: 46 :: (nt ng' da' db' ++ []))).length = (nt ng da db).length + 2 + (nt ng' da' db').length := by
      simp only [List.length_append, List.length_cons, List.length_nil]; omega
    have hle : x.toInt64 * lN g / lN u ≤ y.toInt64 * lN g / lN u := by
      rw [fa_le64, quo (by omega) (by omega) ⟨hg1, hg7⟩ hu hc, quo (by omega) (by omega) ⟨hg1, hg7⟩ hu hc]
      exact Int.mul_le_mul_of_nonneg_right (by omega) (by omega)
    unfold fL_gives_100
    rw [if_pos rfl, show fX2_type σ1 (46 : Int32) = _ from x2, bd2_e, show fX2_type σ2 (46 : Int32) = _ from x3, bd2_e, x4, bd2_e, lt1_e, li2, nI_add, nI_add, show (nt ng da db).length + (2 + (nt ng' da' db').length) = (nt ng da db ++ (46 :: 46 :: (nt ng' da' db' ++ []))).length from by rw [l4]; omega]
    refine gv_136 (v := x.toInt64 * lN g / lN u) (v' := y.toInt64 * lN g / lN u) hN I4 (by rw [← e4]; exact B4) (by rw [l4]; omega) (fun τ Bt => ?_) (fun τ Bt => ?_) hp hq b0 b1 hu (by omega) rfl (Or.inl ⟨rfl, rfl⟩)
    · obtain ⟨τ2, y1, y2, y3⟩ := X_parse2 (post := []) hN hg7 n1 n2 Bt dg0 (by show 0 < 1000; omega) (by show 0 ≠ 47; omega)
      rw [if_pos hle, if_pos rfl] at y1
      exact ⟨τ2, y1, y2, (y3 hle).1, (y3 hle).2⟩
    · have e5 : nt ng da db ++ (46 :: 46 :: (nt ng' da' db' ++ [])) ++ [120] = nt ng da db ++ (46 :: 46 :: (nt ng' da' db' ++ [120])) := by simp
      obtain ⟨τ2, y1, y2, -⟩ := X_parse2 (post := [120]) hN hg7 n1 n2 (by rw [← e5]; exact Bt) dg120 (by show 120 < 1000; omega) (by show 120 ≠ 47; omega)
      rw [if_pos hle, if_neg (by simp), ← l4] at y1
      exact ⟨τ2, y1, y2⟩
  by_cases hw2 : ((a3 >>> ((8 : Int32) &&& 31)) &&& (3 : Int32)) = (0 : Int32)
  · rw [if_pos hw2]; exact one
  · rw [if_neg hw2]; exact two
theorem L_gives {σ : St} {n t g rule len r N : Nat} (hN : 2000 ≤ N) (I : Ig σ n t g rule len r) (a3 a4 : Int32) : ∃ (σ' : St) (len' : Nat), fL_gives N σ (nI n) (nI g) a3 a4 = some (1, σ') ∧ Ig σ' n t g rule len' r := by
  have h10 := I.1.n10
  have h2 := I.1.n2
  have hg1 := I.1.g1
  have hg7 := I.1.g7
  obtain ⟨σ1, x1, B1, k1⟩ := X_clear I.1
  have I1 := I.tk k1 B1
  obtain ⟨p, hp, e1⟩ := L_low a3 (n := n) (by omega) (by omega)
  obtain ⟨q, hq, e2⟩ := L_low (a3 >>> ((4 : Int32) &&& 31)) (n := n) (by omega) (by omega)
  unfold fL_gives
  rw [x1, bd2_e, e1, bd0_e, e2, bd0_e]
  have key1 := gv_42 (N := N) (a3 := a3) (a4 := a4) (u := 1) (c := g) hN I1 B1 hp hq (by omega) (by omega)
  have keyg := gv_42 (N := N) (a3 := a3) (a4 := a4) (u := g) (c := 1) hN I1 B1 hp hq (by omega) (by omega)
  by_cases hw : (a4 &&& (1 : Int32)) = (0 : Int32)
  · rw [if_pos hw]; exact key1
  · rw [if_neg hw]
    by_cases hg : nI g ≤ (1 : Int32)
    · rw [if_pos hg]; exact key1
    · rw [if_neg hg]; exact keyg
