/-! gathering: class and reference side by side -/
theorem sI_sI (σ : St) (k : Nat) (u v : Int32) : sI (sI σ k u) k v = sI σ k v := by
  unfold sI
  refine Prod.ext ?_ rfl
  funext b
  by_cases h : b = k
  · simp [h]
  · simp [h]
theorem sI_sG (σ : St) (a k : Nat) (f : Nat → Int64) (v : Int32) : sI (sG σ a f) k v = sG (sI σ k v) a f := rfl
/-- the arrays that are gathered into do not count -/
theorem RP_got {σ τ : St} {n t g rule len : Nat} (f f' : Nat → Int64) (v : Int32) (R : RP σ τ n t g rule len) : RP (sG σ 5 f) (sG (sI τ 7 v) 5 f') n t g rule len := R
theorem RV_got {σ τ : St} {n r : Nat} (f f' : Nat → Int64) (v : Int32) (V : RV σ τ n r) : RV (sG σ 5 f) (sG (sI τ 7 v) 5 f') n r := V
theorem cor_got (σ : St) (f : Nat → Int64) (p : Nat) : cor (sG σ 5 f) p = cor σ p := rfl
/-- the first m numbers are alike, and within the bounds -/
def gotR (m : Nat) (f f' : Nat → Int64) : Prop := ∀ j, j < m → f j = f' j ∧ bnd (f j)
theorem gotR_ins {m : Nat} {f f' : Nat → Int64} {v : Int64} (h : gotR m f f') (hv : bnd v) : gotR (m + 1) (insF f v m) (insF f' v m) := fun j hj => ⟨insF_cong m f f' (fun i hi => (h i hi).1) j (by omega), insF_bnd hv m f (fun i hi => (h i hi).2) j (by omega)⟩
theorem gather_loop {σ τ : St} {n t g rule len N r q : Nat} {hi : Int32} (hN : 2000 ≤ N) (R : RP σ τ n t g rule len) (V : RV σ τ n r) (hq : q < n) {q47 : St → Int32 → Option (Int32 × St)} {q106 : St → Option St} : ∀ (k i fX fM m : Nat) (f f' : Nat → Int64), i + k = n → k < fX → k < fM → m ≤ i → (cor σ q = true → gotR m f f') →
    ∃ (m2 : Nat) (f2 f2' : Nat → Int64), m2 ≤ n ∧ fX3_gather_7 N q106 fM (sG (sI τ 7 (nI m)) 5 f') (nI q) (nI (sd hi)) (nI i) = q106 (sG (sI τ 7 (nI m2)) 5 f2') ∧ (cor σ q = true → gotR m2 f2 f2' ∧ fX2_collectRest_5 N q47 fX (sG σ 5 f) (nI q) hi (nI m) (nI i) = q47 (sG σ 5 f2) (nI m2)) := by
  have h10 := R.n10
  intro k
  induction k with
  | zero =>
    intro i fX fM m f f' hi0 hfX hfM hm hg
    obtain ⟨a, rfl⟩ : ∃ k, fX = k + 1 := ⟨fX - 1, by omega⟩
    obtain ⟨b, rfl⟩ : ∃ k, fM = k + 1 := ⟨fM - 1, by omega⟩
    have hin : i = n := by omega
    subst hin
    refine ⟨m, f, f', by omega, ?_, fun hc => ⟨hg hc, ?_⟩⟩
    · show fX3_gather_7b N q106 _ _ _ _ (nI i) = _
      unfold fX3_gather_7b
      rw [show gI (sG (sI τ 7 (nI m)) 5 f') 0 = nI i from R.mn, if_pos (nI_le (Nat.le_refl _) (by omega))]
    · show fX2_collectRest_5b N q47 _ _ _ _ _ (nI i) = _
      unfold fX2_collectRest_5b
      rw [show gI (sG σ 5 f) 0 = nI i from R.xn, if_pos (nI_le (Nat.le_refl _) (by omega))]
  | succ k ih =>
    intro i fX fM m f f' hi0 hfX hfM hm hg
    obtain ⟨a, rfl⟩ : ∃ k, fX = k + 1 := ⟨fX - 1, by omega⟩
    obtain ⟨b, rfl⟩ : ∃ k, fM = k + 1 := ⟨fM - 1, by omega⟩
    have R' := RP_got f f' (nI m) R
    have V' := RV_got f f' (nI m) V
    have eM : fX3_gather_7 N q106 (b + 1) (sG (sI τ 7 (nI m)) 5 f') (nI q) (nI (sd hi)) (nI i) = fX3_gather_7b N q106 (fX3_gather_7 N q106 b) (sG (sI τ 7 (nI m)) 5 f') (nI q) (nI (sd hi)) (nI i) := rfl
    have eX : fX2_collectRest_5 N q47 (a + 1) (sG σ 5 f) (nI q) hi (nI m) (nI i) = fX2_collectRest_5b N q47 (fX2_collectRest_5 N q47 a) (sG σ 5 f) (nI q) hi (nI m) (nI i) := rfl
    unfold fX3_gather_7b at eM
    unfold fX2_collectRest_5b at eX
    rw [show gI (sG (sI τ 7 (nI m)) 5 f') 0 = nI n from R.mn, if_neg (nI_nge (by omega) (by omega)), M_isSent R' (by omega) hq, bd2_e] at eM
    rw [show gI (sG σ 5 f) 0 = nI n from R.xn, if_neg (nI_nge (by omega) (by omega)), X_delayOf (by omega) (by omega), bd2_e] at eX
    by_cases hd : gF (sG σ 5 f) 1 (10 * i + q) = -1
    · rw [if_pos hd, if_pos rfl, lt1_e, nI_1] at eM
      rw [if_pos hd, lt1_e, nI_1] at eX
      obtain ⟨m2, f2, f2', g1, g2, g3⟩ := ih (i + 1) a b m f f' (by omega) (by omega) (by omega) (by omega) hg
      exact ⟨m2, f2, f2', g1, eM.trans g2, fun hc => ⟨(g3 hc).1, eX.trans (g3 hc).2⟩⟩
    · obtain ⟨v, s1, s2⟩ := sent_eq (hi := hi) hN R' V' (show i < n by omega) hq hd
      rw [if_neg hd, if_neg z10, s1, bd2_e, lt1_e, show gI (sG (sI τ 7 (nI m)) 5 f') 7 = nI m from rfl] at eM
      obtain ⟨f3, p3, l1, l2, l3⟩ := M_ins (τ := sI τ 7 (nI m)) (N := N) (v := v) (x27 := nI q) (x28 := nI (sd hi)) (x29 := nI i) (q := fun σ55 x50 x51 x52 x53 x54 => if (x54 < 0 ∨ 10 ≤ (x54).toNatClampNeg) then none else lt1 (sG σ55 5 (vp_updL (gG σ55 5) (x54).toNatClampNeg x53)) fun σ59 => lt1 (sI σ59 7 ((gI σ59 7) + (1 : Int32))) fun σ61 => lt1 (x52 + (1 : Int32)) fun x63 => fX3_gather_7 N q106 b σ61 x50 x51 x63) m N f' (by omega) (by omega)
      have eM := eM.trans l3
      rw [if_neg (nI_in (by omega) (by omega)), nI_clamp (by omega), lt1_e, lt1_e, lt1_e, sG_sG, show gG (sG (sI τ 7 (nI m)) 5 f3) 5 = f3 from rfl, l2, show gI (sG (sI τ 7 (nI m)) 5 (insF f' v m)) 7 = nI m from rfl, nI_1, nI_1, sI_sG, sI_sI] at eM
      obtain ⟨m2, f2, f2', g1, g2, g3⟩ := ih (i + 1) a b (m + 1) (insF f v m) (insF f' v m) (by omega) (by omega) (by omega) (by omega) (fun hc => gotR_ins (hg hc) (s2 hc).2)
      refine ⟨m2, f2, f2', g1, eM.trans g2, fun hc => ⟨(g3 hc).1, ?_⟩⟩
      rw [if_neg hd, (s2 hc).1, bd2_e, X_insert hN f (by omega), bd0_e, lt1_e, lt1_e, nI_1, nI_1] at eX
      exact eX.trans (g3 hc).2
/-- what is left over, and what the reference gathered -/
theorem gather_eq {σ τ : St} {n t g rule len N r q : Nat} {hi : Int32} (hN : 2000 ≤ N) (R : RP σ τ n t g rule len) (V : RV σ τ n r) (hq : q < n) :
    ∃ (m : Nat) (f f' : Nat → Int64), m ≤ n ∧ fX3_gather N τ (nI q) (nI (sd hi)) = some (sG (sI τ 7 (nI m)) 5 f') ∧ (cor σ q = true → gotR m f f' ∧ fX2_collectRest N σ (nI q) hi = some (nI (m - 2 * t), sG σ 5 f)) := by
  have h10 := R.n10
  have h3 := R.t3
  obtain ⟨m, f, f', g1, g2, g3⟩ := gather_loop (hi := hi) hN R V hq (q47 := fun σ31 x30 => bd0 (fJ9_max_7cf53 (0 : Int32) (x30 - ((2 : Int32) * (gI σ31 1)))) fun r34 => some (r34, σ31)) (q106 := fun σ65 => some σ65) n 0 N N 0 (gG σ 5) (gG τ 5) (by omega) (by omega) (by omega) (by omega) (fun _ j hj => by omega)
  refine ⟨m, f, f', g1, ?_, fun hc => ⟨(g3 hc).1, ?_⟩⟩
  · unfold fX3_gather
    rw [lt1_e]
    have e : sG (sI τ 7 (nI 0)) 5 (gG τ 5) = sI τ 7 (0 : Int32) := sG_self (sI τ 7 (0 : Int32)) 5
    rw [e] at g2
    exact g2
  · have e := (g3 hc).2
    rw [sG_self] at e
    unfold fX2_collectRest
    refine Eq.trans e ?_
    rw [J_maxI, bd0_e, show gI (sG σ 5 f) 1 = nI t from R.xt, li2, pk_mul]
    by_cases hl : 2 * t < m
    · rw [pk_sub (by omega), if_pos (cL_lt 0 (by omega) (by omega))]
    · have h2 : ¬ (0 : Int32) < nI m - nI (2 * t) := fun z => by
        rw [fa_lt, pk_sub_toInt (by omega) (by omega)] at z
        have : (0 : Int32).toInt = 0 := rfl
        omega
      rw [if_neg h2, show m - 2 * t = 0 from by omega]; rfl
