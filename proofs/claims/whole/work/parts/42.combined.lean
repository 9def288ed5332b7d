/-! combining what is left over -/
theorem X_restAt {σ : St} {t a : Nat} (ht : gI σ 1 = nI t) (h : t + a < 10) : fX2_restAt σ (nI a) = some (gG σ 5 (t + a), σ) := by
  unfold fX2_restAt
  rw [lt1_e, ht, nI_add, if_neg (nI_pos (by omega)), if_neg (cL_nle 10 h (by omega)), if_neg (nI_in (by omega) (by omega)), nI_clamp (by omega)]
/-- a sum of c numbers within the bounds -/
def sumB (S : Int64) (c : Nat) : Prop := -(7207200000 * (c : Int)) ≤ S.toInt ∧ S.toInt ≤ 7207200000 * (c : Int)
theorem sumB_add {S x : Int64} {c : Nat} (h : sumB S c) (hx : bnd x) (hc : c ≤ 100) : sumB (S + x) (c + 1) := by
  unfold sumB bnd at *
  rw [fb_addL (by omega) (by omega)]
  omega
theorem sumB_2 {x y : Int64} (hx : bnd x) (hy : bnd y) : sumB (x + y) 2 := by
  unfold sumB bnd at *
  rw [fb_addL (by omega) (by omega)]
  omega
/-- the mean, rounded down, on both sides -/
theorem mean_eq {S : Int64} {c : Nat} (h0 : 0 < c) (hc : c ≤ 100) (h : sumB S c) : ∃ v, fJ9_floorDiv_f86c9 S (lN c) = some v ∧ fX3_down S (lN c) = some v ∧ bnd v := by
  obtain ⟨v, h1, h2, h3⟩ := down_eq (a := S) h0 (show c ≤ 1000 by omega)
  exact ⟨v, h1, h2, down_bnd h0 h3 h.1 h.2⟩
theorem mean_loop {σ τ : St} {N t m s : Nat} (ht : gI σ 1 = nI t) (hg : gotR m (gG σ 5) (gG τ 5)) (hm : m ≤ 10) (hs : 0 < s) (hs3 : s ≤ 3) {q42 : St → Int64 → Int64 → Option (Int64 × St)} {q155 : St → Int64 → Int32 → Option (Int64 × St)} : ∀ (k i c fX fM : Nat) (S : Int64), i ≤ 20 → 2 * t < m → m - 2 * t ≤ i + k → k < fX → k < fM → c ≤ i → sumB S c →
    ∃ (S2 : Int64) (c2 : Nat), c ≤ c2 ∧ (i < m - 2 * t → c < c2) ∧ c2 ≤ 40 ∧ sumB S2 c2 ∧ fX2_meanOfEvery_8 N q42 fX σ (nI s) (nI (m - 2 * t)) S (lN c) (nI i) = q42 σ S2 (lN c2) ∧ fX3_combined_124 N q155 fM τ (nI (m - 1 - t)) (nI s) S (nI c) (nI (t + i)) = q155 τ S2 (nI c2) := by
  intro k
  induction k with
  | zero =>
    intro i c fX fM S hi hm2 hk hX hM hc hS
    obtain ⟨a, rfl⟩ : ∃ k, fX = k + 1 := ⟨fX - 1, by omega⟩
    obtain ⟨b, rfl⟩ : ∃ k, fM = k + 1 := ⟨fM - 1, by omega⟩
    refine ⟨S, c, Nat.le_refl _, fun z => by omega, by omega, hS, ?_, ?_⟩
    · show fX2_meanOfEvery_8b N q42 _ σ _ _ _ _ (nI i) = _
      unfold fX2_meanOfEvery_8b
      rw [if_pos (nI_le (by omega) (by omega))]
    · show fX3_combined_124b N q155 _ τ _ _ _ _ (nI (t + i)) = _
      unfold fX3_combined_124b
      rw [if_pos (nI_lt (by omega) (by omega))]
  | succ k ih =>
    intro i c fX fM S hi hm2 hk hX hM hc hS
    obtain ⟨a, rfl⟩ : ∃ k, fX = k + 1 := ⟨fX - 1, by omega⟩
    obtain ⟨b, rfl⟩ : ∃ k, fM = k + 1 := ⟨fM - 1, by omega⟩
    by_cases hl : m - 2 * t ≤ i
    · refine ⟨S, c, Nat.le_refl _, fun z => by omega, by omega, hS, ?_, ?_⟩
      · show fX2_meanOfEvery_8b N q42 _ σ _ _ _ _ (nI i) = _
        unfold fX2_meanOfEvery_8b
        rw [if_pos (nI_le (by omega) (by omega))]
      · show fX3_combined_124b N q155 _ τ _ _ _ _ (nI (t + i)) = _
        unfold fX3_combined_124b
        rw [if_pos (nI_lt (by omega) (by omega))]
    · have hv := hg (t + i) (by omega)
      have eX : fX2_meanOfEvery_8 N q42 (a + 1) σ (nI s) (nI (m - 2 * t)) S (lN c) (nI i) = fX2_meanOfEvery_8b N q42 (fX2_meanOfEvery_8 N q42 a) σ (nI s) (nI (m - 2 * t)) S (lN c) (nI i) := rfl
      have eM : fX3_combined_124 N q155 (b + 1) τ (nI (m - 1 - t)) (nI s) S (nI c) (nI (t + i)) = fX3_combined_124b N q155 (fX3_combined_124 N q155 b) τ (nI (m - 1 - t)) (nI s) S (nI c) (nI (t + i)) := rfl
      unfold fX2_meanOfEvery_8b at eX
      unfold fX3_combined_124b at eM
      rw [if_neg (nI_nge (by omega) (by omega)), if_neg (cR_nle 0 hs (by omega)), X_restAt ht (by omega), bd2_e, lt1_e, lt1_e, lt1_e, lN_1, nI_add] at eX
      rw [if_neg (nI_nlt (by omega) (by omega)), if_neg (nI_in (by omega) (by omega)), nI_clamp (by omega), lt1_e, lt1_e, lt1_e, nI_1, nI_add, ← hv.1, Nat.add_assoc] at eM
      obtain ⟨S2, c2, g1, g2, g3, g4, g5, g6⟩ := ih (i + s) (c + 1) a b (S + gG σ 5 (t + i)) (by omega) hm2 (by omega) (by omega) (by omega) (by omega) (sumB_add hS hv.2 (by omega))
      exact ⟨S2, c2, by omega, fun _ => by omega, g3, g4, eX.trans g5, eM.trans g6⟩
theorem mean_both {σ τ : St} {N t m s : Nat} (hN : 2000 ≤ N) (ht : gI σ 1 = nI t) (hg : gotR m (gG σ 5) (gG τ 5)) (hm : m ≤ 10) (hs : 0 < s) (hs3 : s ≤ 3) (h2 : 2 * t < m) : ∃ v, fX2_meanOfEvery N σ (nI s) (nI (m - 2 * t)) = some (v, σ) ∧ fX3_combined_113 N τ (nI t) (nI (m - 1 - t)) (nI s) = some (v, τ) ∧ bnd v := by
  obtain ⟨S2, c2, g1, g2, g3, g4, g5, g6⟩ := mean_loop (N := N) ht hg hm hs hs3 (q42 := fun σ25 x23 x24 => if x24 ≤ (0 : Int64) then (some ((0 : Int64), σ25)) else (bd0 (fJ9_floorDiv_f86c9 x23 x24) fun r31 => some (r31, σ25))) (q155 := fun σ46 x44 x45 => bd0 (fX3_down x44 (x45.toInt64)) fun r49 => some (r49, σ46)) 20 0 0 N N 0 (by omega) h2 (by omega) (by omega) (by omega) (Nat.le_refl _) ⟨by decide, by decide⟩
  have hc := g2 (by omega)
  obtain ⟨v, e1, e2, e3⟩ := mean_eq hc (by omega) g4
  refine ⟨v, ?_, ?_, e3⟩
  · unfold fX2_meanOfEvery
    refine Eq.trans g5 ?_
    rw [if_neg (dR_nle 0 hc (by omega)), e1, bd0_e]
  · unfold fX3_combined_113
    refine Eq.trans g6 ?_
    rw [nI_l (by omega), e2, bd0_e]
theorem combined_eq {σ τ : St} {N t m rule : Nat} (hN : 2000 ≤ N) (ht : gI σ 1 = nI t) (ht' : gI τ 1 = nI t) (hr : gI σ 4 = nI rule) (hr' : gI τ 2 = nI rule) (h3 : t ≤ 3) (hr3 : rule ≤ 3) (hg : gotR m (gG σ 5) (gG τ 5)) (hm : m ≤ 10) (hmm : gI τ 7 = nI m) (h2 : 2 * t < m) :
    ∃ v, fX2_combined N σ (nI (m - 2 * t)) = some (v, σ) ∧ fX3_combined N τ = some (v, τ) ∧ bnd v := by
  have m1 := mean_both (s := 1) hN ht hg hm (by omega) (by omega) h2
  unfold fX2_combined fX3_combined
  rw [lt1_e, lt1_e, lt1_e, hmm, ht', hr, hr', li1, pk_sub (show 1 ≤ m - 2 * t by omega), pk_sub (show 1 ≤ m by omega), pk_sub (show t ≤ m - 1 by omega), pk_sub (show t ≤ m - 1 - t by omega), nI_add]
  by_cases h1 : rule = 1
  · subst h1
    rw [if_pos rfl, if_pos rfl, show fX2_restAt σ (0 : Int32) = _ from X_restAt (a := 0) ht (by omega), bd2_e, X_restAt ht (by omega), bd2_e, if_neg (nI_in (by omega) (by omega)), if_neg (nI_in (by omega) (by omega)), nI_clamp (by omega), nI_clamp (by omega), ← (hg t (by omega)).1, ← (hg (m - 1 - t) (by omega)).1, show t + 0 = t from rfl, show t + (m - 2 * t - 1) = m - 1 - t from by omega]
    obtain ⟨v, e1, e2, e3⟩ := mean_eq (S := gG σ 5 t + gG σ 5 (m - 1 - t)) (c := 2) (by omega) (by omega) (sumB_2 (hg t (by omega)).2 (hg (m - 1 - t) (by omega)).2)
    refine ⟨v, ?_, ?_, e3⟩
    · rw [show (2 : Int64) = lN 2 from rfl, e1, bd0_e]
    · rw [show (2 : Int64) = lN 2 from rfl, e2, bd0_e]
  · rw [if_neg (show ¬ nI rule = nI 1 from cR_ne 1 h1 (by omega) (by omega)), if_neg (show ¬ nI rule = nI 1 from cR_ne 1 h1 (by omega) (by omega))]
    by_cases h2' : rule = 2
    · subst h2'
      rw [if_pos (show nI 2 = 2 from rfl), if_pos (show nI 2 = 2 from rfl), li2, pk_div (by omega) (by omega) (by omega), pk_div (by omega) (by omega) (by omega), X_restAt ht (by omega), bd2_e, X_restAt ht (by omega), bd2_e, show m - 1 - t - t + 1 = m - 2 * t from by omega, pk_sub (show 1 ≤ m - 2 * t by omega), pk_div (by omega) (by omega) (by omega), pk_div (by omega) (by omega) (by omega), nI_add, nI_add, if_neg (nI_in (by omega) (by omega)), if_neg (nI_in (by omega) (by omega)), nI_clamp (by omega), nI_clamp (by omega), ← (hg (t + (m - 2 * t - 1) / 2) (by omega)).1, ← (hg (t + (m - 2 * t) / 2) (by omega)).1]
      obtain ⟨v, e1, e2, e3⟩ := mean_eq (S := gG σ 5 (t + (m - 2 * t - 1) / 2) + gG σ 5 (t + (m - 2 * t) / 2)) (c := 2) (by omega) (by omega) (sumB_2 (hg _ (by omega)).2 (hg _ (by omega)).2)
      refine ⟨v, ?_, ?_, e3⟩
      · rw [show (2 : Int64) = lN 2 from rfl, e1, bd0_e]
      · rw [show (2 : Int64) = lN 2 from rfl, e2, bd0_e]
    · rw [if_neg (show ¬ nI rule = 2 from cR_ne 2 h2' (by omega) (by omega)), if_neg (show ¬ nI rule = 2 from cR_ne 2 h2' (by omega) (by omega))]
      by_cases h3' : rule = 3
      · subst h3'
        rw [if_pos (show nI 3 = 3 from rfl), if_pos (show nI 3 = 3 from rfl), ht, J_maxI, bd0_e]
        by_cases ht1 : t ≤ 1
        · obtain ⟨v, e1, e2, e3⟩ := m1
          have e : (if nI 1 < nI t then nI t else nI 1) = nI 1 := by rw [if_neg (nI_nlt (by omega) (by omega))]
          rw [e, e1, bd2_e, if_pos (nI_le ht1 (by omega))]
          exact ⟨v, rfl, e2, e3⟩
        · obtain ⟨v, e1, e2, e3⟩ := mean_both (s := t) hN ht hg hm (by omega) (by omega) h2
          rw [if_pos (show nI 1 < nI t from nI_lt (by omega) (by omega)), e1, bd2_e, if_neg (nI_nge (by omega) (by omega))]
          exact ⟨v, rfl, e2, e3⟩
      · obtain ⟨v, e1, e2, e3⟩ := m1
        rw [if_neg (show ¬ nI rule = 3 from cR_ne 3 h3' (by omega) (by omega)), if_neg (show ¬ nI rule = 3 from cR_ne 3 h3' (by omega) (by omega)), e1, bd2_e]
        exact ⟨v, rfl, e2, e3⟩
