/-! the law -/
theorem L_cell {L : Nat} {xs : Nat → Int32} (hL : L ≤ 260) {j : Nat} (hj : j < 1000) : ∃ v, fL_cell L xs (nI j) = some v := by
  unfold fL_cell
  by_cases h : Int32.ofNat L ≤ nI j
  · rw [if_pos h]; exact ⟨_, rfl⟩
  · have hlt : j < L := by
      by_cases z : j < L
      · exact z
      · exact absurd (nI_le (show L ≤ j by omega) (by omega)) h
    rw [if_neg h, if_neg (nI_in hlt (by omega))]
    exact ⟨_, rfl⟩
theorem Ig.rule {σ : St} {n t g rule len r s : Nat} (I : Ig σ n t g rule len r) (h : s ≤ 3) : Ig (sI σ 4 (nI s)) n t g s len r :=
  ⟨I.1.rule h, fun hf => (I.2 hf).same (fun _ => rfl) (fun _ _ _ _ _ _ _ => rfl)⟩
theorem Ig.back {σ : St} {n t g rule len r r' : Nat} (I : Ig σ n t g rule len r) (h : r' ≤ r) : Ig (sI σ 3 (nI r')) n t g rule len r' :=
  ⟨I.1.back h, fun hf => ((I.2 hf).le h).same (fun _ => rfl) (fun _ _ _ _ _ _ _ => rfl)⟩
/-- what the law does next -/
def Nx (n t g e : Nat) (q182 : St → Int32 → Int32 → Int32 → Int32 → Option Int32) : Prop := ∀ (σ : St) (rule len r : Nat), Ig σ n t g rule len r → q182 σ (nI n) (nI t) (nI g) (nI (e + 1)) = some 1
section
variable {N L : Nat} {xs : Nat → Int32} {q182 : St → Int32 → Int32 → Int32 → Int32 → Option Int32} {σ : St} {n t g rule len r e : Nat}
theorem lw_708 (hN : 2000 ≤ N) (hq : Nx n t g e q182) (I : Ig σ n t g rule len r) : fL_law_708 N L xs q182 σ (nI n) (nI t) (nI g) (nI e) = some 1 := by
  have h10 := I.1.n10
  have hf := fy_le σ n
  have c4 := (X_counts hN I.1).2.2.2.1
  have hgo := hq σ rule len r I
  unfold fL_law_708
  rcases X_most hN I.1 with ⟨h1, e1, e0⟩ | ⟨b, hb, hc, e1, e0⟩
  · have hall : fy σ n = n := fy_all.mpr (fun p hp => by
      cases h : cor σ p
      · rfl
      · exact absurd h (h1 p hp))
    rw [e1, bd2_e, e0, bd2_e, c4, bd2_e, hall, if_pos rfl, if_pos rfl, lt1_e, nI_1]
    exact hgo
  · have hne : fy σ n ≠ n := fun z => by
      have := fy_all.mp z b hb
      rw [hc] at this; cases this
    have hp := hd_pos (r := r) hb hc
    have h2 := hd_cor σ r b n
    have h3 := cor_ct σ n
    have h4 := dv_le (σ := σ) (n := n) (r := r) (b := b)
    have hs0 : gF σ 2 b = 0 := cor_t.mp hc
    rw [e1, bd2_e, e0, bd2_e, c4, bd2_e, if_neg (nI_ne hne (by omega) (by omega)), if_neg (cR_nlt 1 hp (by omega)), c4, bd2_e, pk_sub hf, if_neg (nI_nlt (by omega) (by omega)), X_strategy I.1 hb, bd2_e, hs0, if_pos rfl, (X_counts hN I.1).2.2.2.2.2.2.1, bd2_e, c4, bd2_e, pk_sub hf, pk_sub (by omega), nI_1, if_pos (nI_le (by omega) (by omega)), lt1_e, nI_1]
    exact hgo
theorem lw_404 (hN : 2000 ≤ N) (hq : Nx n t g e q182) (I : Ig σ n t g rule len r) {p : Nat} (hp : p < n) (v : Int32) : fL_law_404 N L xs q182 σ (nI n) (nI t) (nI g) (nI e) (nI p) v v = some 1 := by
  unfold fL_law_404
  rw [if_pos rfl, X_setFaulty6 I.1 hp, bd2_e, if_pos rfl, X_setFaultyN I.1, bd2_e, if_pos rfl]
  exact lw_708 hN hq I
theorem lw_387 (hN : 2000 ≤ N) (hq : Nx n t g e q182) (I : Ig σ n t g rule len r) {σ' : St} (I' : Iv σ' n t g rule len r) (hs : r ≠ 0 → σ' = σ) {p : Nat} (hp : p < n) {st v : Int32} (hv : v = if r = 0 then st else -1003) : fL_law_387 N L xs q182 σ' (nI n) (nI t) (nI g) (nI e) (nI p) (nI r) st v = some 1 := by
  have h60 := I.1.r60
  unfold fL_law_387
  by_cases hr : r = 0
  · subst hr
    rw [if_pos rfl] at hv
    subst hv
    rw [if_pos (cR_le 0 (Nat.le_refl _) (by omega))]
    exact lw_404 hN hq (Ig.zero I') hp v
  · rw [if_neg hr] at hv
    subst hv
    obtain rfl := hs hr
    rw [if_neg (cR_nle 0 (by omega) (by omega))]
    exact lw_404 hN hq I hp (-1003)
theorem lw_323 (hN : 2000 ≤ N) (hq : Nx n t g e q182) (I : Ig σ n t g rule len r) {p k : Nat} (hp : p < n) (hk : 0 < k) (hk7 : k ≤ 720720) (hd : k ∣ g) (w1 w2 : Int32) : fL_law_323 N L xs q182 σ (nI n) (nI t) (nI g) (nI e) w1 w2 (nI p) (nI r) (gF σ 2 p) (nI k) = some 1 := by
  have h384 : ∀ {k' j1 j2 : Nat}, 0 < k' → k' ≤ 1000 → k' ∣ g → j1 < 5 → j2 < 41 → fL_law_384 N L xs q182 σ (nI n) (nI t) (nI g) (nI e) (nI p) (nI r) (gF σ 2 p) (nI k') (nI j2 - (20 : Int32)) ((1 : Int32) + nI j1) (nI p) = some 1 := by
    intro k' j1 j2 a1 a2 a3 a4 a5
    have t20 : (20 : Int32).toInt = 20 := rfl
    have xT : (nI j2 - (20 : Int32)).toInt = (j2 : Int) - 20 := by
      rw [fb_subI (by rw [nI_toInt (by omega), t20]; omega) (by rw [nI_toInt (by omega), t20]; omega), nI_toInt (by omega), t20]
    obtain ⟨σ', e1, I', hs⟩ := X_setFaulty (s := 1 + j1) I.1 hp (by omega) (by omega) (show -1000 ≤ (nI j2 - (20 : Int32)).toInt by omega) (by omega) a1 a2 a3
    unfold fL_law_384
    rw [show (1 : Int32) + nI j1 = nI (1 + j1) from by rw [li1, nI_add], e1, bd2_e]
    exact lw_387 hN hq I I' hs hp rfl
  unfold fL_law_323
  by_cases hw : ((w1 >>> ((8 : Int32) &&& 31)) &&& (3 : Int32)) = (0 : Int32)
  · obtain ⟨σ', e1, I', hs⟩ := X_setCorrect I.1 hp
    rw [if_pos hw, e1, bd2_e]
    exact lw_387 hN hq I I' hs hp rfl
  · obtain ⟨j1, h1, e1⟩ := L_low (w2 >>> ((4 : Int32) &&& 31)) (n := 5) (by omega) (by omega)
    obtain ⟨j2, h2, e2⟩ := L_low (w2 >>> ((8 : Int32) &&& 31)) (n := 41) (by omega) (by omega)
    rw [if_neg hw, show fL_low (w2 >>> ((4 : Int32) &&& 31)) (5 : Int32) = _ from e1, bd0_e, show fL_low (w2 >>> ((8 : Int32) &&& 31)) (41 : Int32) = _ from e2, bd0_e]
    by_cases h : k ≤ 1000
    · rw [if_pos (cR_le 1000 h (by omega))]
      exact h384 hk h hd h1 h2
    · rw [if_neg (cR_nle 1000 (by omega) (by omega))]
      exact h384 (k' := 1) (by omega) (by omega) (Nat.one_dvd g) h1 h2
theorem lw_577 (hN : 2000 ≤ N) (hq : Nx n t g e q182) (I : Ig σ n t g rule len r) (w : Int32) : fL_law_577 N L xs q182 σ (nI n) (nI t) (nI g) (nI e) w 1 = some 1 := by
  have h3 := I.1.u3
  obtain ⟨s, hs, e1⟩ := L_low (w >>> ((8 : Int32) &&& 31)) (n := 4) (by omega) (by omega)
  have I1 := I.rule (s := s) (by omega)
  unfold fL_law_577
  rw [if_neg z10, show fL_low (w >>> ((8 : Int32) &&& 31)) (4 : Int32) = _ from e1, bd0_e, X_setRule I.1 (by omega), bd2_e, if_neg (cR_nlt 0 (Nat.zero_le _) (by omega)), X_setRule4, bd2_e, if_pos rfl, X_setLink4 I1.1, bd2_e, if_pos rfl]
  exact lw_708 hN hq I1
theorem dly_0 {a : Int32} (h : dly a) : ((0 : Int32) ≤ a ∧ d01 a = 1) ∨ (¬ (0 : Int32) ≤ a ∧ d01 a = 0) := by
  rcases h with rfl | ⟨d, hd, rfl⟩
  · exact Or.inr ⟨by decide, if_pos rfl⟩
  · exact Or.inl ⟨cL_le 0 (Nat.zero_le _) (by omega), if_neg (nI_m1 (by omega))⟩
theorem sub_turn {a b c d : Nat} (h : a + b = c + d) : nI a = nI c - nI b + nI d := by
  have h1 : nI a + nI b = nI c + nI d := by rw [nI_add, nI_add, h]
  rw [← Int32.add_sub_cancel (nI a) (nI b), h1, Int32.sub_eq_add_neg, Int32.sub_eq_add_neg, Int32.add_assoc, Int32.add_assoc, Int32.add_comm (nI d)]
theorem lw_491 (hN : 2000 ≤ N) (hq : Nx n t g e q182) (I : Ig σ n t g rule len r) {p q : Nat} (hp : p < n) (hqn : q < n) {a w : Int32} (ha : dly a) : fL_law_491 N L xs q182 σ (nI n) (nI t) (nI g) (nI e) w (nI p) (nI q) (nI (lk σ 3 n n)) a = some 1 := by
  have h10 := I.1.n10
  unfold fL_law_491
  by_cases hpq : p = q
  · subst hpq
    rw [X_setLinkSelf I.1 hp, bd2_e, if_pos rfl, if_pos rfl, (X_counts hN I.1).2.2.2.2.2.1, bd2_e, if_pos rfl]
    exact lw_577 hN hq I w
  · obtain ⟨e1, I1⟩ := X_setLink I.1 hp hqn hpq ha
    have I2 : Ig (sF σ 1 (upd (gF σ 1) (10 * p + q) a)) n t g rule len r := ⟨I1, fun hf => (I.2 hf).same (fun _ => rfl) (fun _ _ _ _ _ _ _ => rfl)⟩
    have hk := lk_set h10 hp hqn hpq I.1.d3 ha
    have ho : dly (gF σ 1 (10 * p + q)) := I.1.d3 _ (by omega)
    rw [e1, bd2_e, if_neg (nI_ne hpq (by omega) (by omega)), (X_counts hN I1).2.2.2.2.2.1, bd2_e]
    have h568 : ∀ d d' : Nat, d01 (gF σ 1 (10 * p + q)) = d → d01 a = d' → fL_law_568 N L xs q182 (sF σ 1 (upd (gF σ 1) (10 * p + q) a)) (nI n) (nI t) (nI g) (nI e) w (nI d') (nI (lk σ 3 n n) - nI d) (nI (lk (sF σ 1 (upd (gF σ 1) (10 * p + q) a)) 3 n n)) = some 1 := by
      intro d d' h1 h2
      rw [h1, h2] at hk
      unfold fL_law_568
      rw [if_pos (sub_turn hk)]
      exact lw_577 hN hq I2 w
    have h557 : ∀ d : Nat, d01 (gF σ 1 (10 * p + q)) = d → fL_law_557 N L xs q182 (sF σ 1 (upd (gF σ 1) (10 * p + q) a)) (nI n) (nI t) (nI g) (nI e) w a (nI d) (nI (lk σ 3 n n)) (nI (lk (sF σ 1 (upd (gF σ 1) (10 * p + q) a)) 3 n n)) = some 1 := by
      intro d h1
      unfold fL_law_557
      rcases dly_0 ha with ⟨h2, h3⟩ | ⟨h2, h3⟩
      · rw [if_pos h2]; exact h568 d 1 h1 h3
      · rw [if_neg h2]; exact h568 d 0 h1 h3
    rcases dly_0 ho with ⟨h2, h3⟩ | ⟨h2, h3⟩
    · rw [if_pos h2]; exact h557 1 h3
    · rw [if_neg h2]; exact h557 0 h3
theorem lw_279 (hN : 2000 ≤ N) (hq : Nx n t g e q182) (I : Ig σ n t g rule len r) (w1 w2 : Int32) : fL_law_279 N L xs q182 σ (nI n) (nI t) (nI g) (nI e) w1 w2 (nI g) (nI n) = some 1 := by
  obtain ⟨σ', len', e1, I'⟩ := L_gives hN I w2 w1
  unfold fL_law_279
  rw [e1, bd2_e, if_neg z10]
  exact lw_708 hN hq I'
theorem lw_233 (hN : 2000 ≤ N) (hq : Nx n t g e q182) (I : Ig σ n t g rule len r) (he : e < 40) (w1 w2 x : Int32) : fL_law_233 N L xs q182 σ (nI n) (nI t) (nI g) (nI e) w1 w2 x = some 1 := by
  have h10 := I.1.n10
  have h2 := I.1.n2
  have h60 := I.1.r60
  have hg1 := I.1.g1
  have hg7 := I.1.g7
  obtain ⟨p, hp, e1⟩ := L_low w1 (n := n) (by omega) (by omega)
  unfold fL_law_233
  rw [e1, bd0_e, (X_counts hN I.1).2.2.1, bd2_e]
  by_cases hx : (2 : Int32) ≤ x
  · rw [if_pos hx]
    by_cases hx2 : x = 2
    · rw [if_pos hx2, X_strategy I.1 hp, bd2_e]
      have h317 : fL_law_317 N L xs q182 σ (nI n) (nI t) (nI g) (nI e) w1 w2 (nI p) (nI r) (gF σ 2 p) = some 1 := by
        unfold fL_law_317
        exact lw_323 (k := 1) hN hq I hp (by omega) (by omega) (Nat.one_dvd g) w1 w2
      by_cases hw : (w2 &&& (1 : Int32)) = (0 : Int32)
      · rw [if_pos hw]; exact h317
      · rw [if_neg hw]
        by_cases hg : nI g = (720720 : Int32)
        · rw [if_pos hg]; exact h317
        · rw [if_neg hg]; exact lw_323 hN hq I hp (by omega) hg7 (Nat.dvd_refl g) w1 w2
    · rw [if_neg hx2]
      by_cases hx3 : x = 3
      · rw [if_pos hx3]
        obtain ⟨q, hqn, e2⟩ := L_low (w1 >>> ((4 : Int32) &&& 31)) (n := n) (by omega) (by omega)
        obtain ⟨j, hj, e3⟩ := L_low w2 (n := 9) (by omega) (by omega)
        rw [e2, bd0_e, (X_counts hN I.1).2.2.2.2.2.1, bd2_e, show fL_low w2 (9 : Int32) = _ from e3, bd0_e]
        by_cases h4 : (4 : Int32) ≤ nI j
        · obtain ⟨d, hd, e4⟩ := L_low (w2 >>> ((4 : Int32) &&& 31)) (n := 5) (by omega) (by omega)
          rw [if_pos h4, show fL_low (w2 >>> ((4 : Int32) &&& 31)) (5 : Int32) = _ from e4, bd0_e]
          refine lw_491 hN hq I hp hqn ?_
          by_cases hd0 : d = 0
          · subst hd0; exact Or.inl (by decide)
          · exact Or.inr ⟨d - 1, by omega, by rw [li1]; exact pk_sub (by omega)⟩
        · rw [if_neg h4]
          exact lw_491 hN hq I hp hqn (Or.inr ⟨0, by omega, rfl⟩)
      · rw [if_neg hx3]
        by_cases hx4 : x = 4
        · obtain ⟨σ', c1, e2⟩ := L_foretells hN I.1 w1 w2
          rw [if_pos hx4, e2, bd2_e, if_neg z10]
          exact lw_708 hN hq (I.co c1)
        · rw [if_neg hx4]
          by_cases hx5 : x = 5
          · obtain ⟨c, hc, e2⟩ := L_low w2 (n := r + 1) (by omega) (by omega)
            have I1 := I.back (r' := r - c) (by omega)
            rw [if_pos hx5, nI_1, e2, bd0_e, X_back I.1 (by omega), bd2_e, pk_sub (by omega), if_pos rfl, (X_back_bad I1.1).1, bd2_e, if_pos rfl]
            exact lw_708 hN hq I1
          · obtain ⟨σ', r', e2, I1, H1⟩ := L_round hN I.1 I.2
            rw [if_neg hx5, e2, bd2_e, if_neg z10]
            exact lw_708 hN hq (⟨I1, H1⟩ : Ig σ' n t g rule len r')
  · rw [if_neg hx]
    by_cases h : nI n ≤ nI e
    · rw [if_pos h]; exact lw_279 hN hq I _ _
    · rw [if_neg h]; exact lw_279 hN hq I _ _
end
theorem lw_loop {N L : Nat} {xs : Nat → Int32} {n t g : Nat} (hN : 2000 ≤ N) (hL : L ≤ 260) {q798 : St → Option Int32} (hq : ∀ (σ : St) (rule len r : Nat), Ig σ n t g rule len r → q798 σ = some 1) : ∀ (k e fX : Nat) (σ : St) (rule len r : Nat), Ig σ n t g rule len r → e + k = 40 → k < fX → fL_law_182 N L xs q798 fX σ (nI n) (nI t) (nI g) (nI e) = some 1 := by
  intro k
  induction k with
  | zero =>
    intro e fX σ rule len r I he hfX
    obtain ⟨a, rfl⟩ : ∃ k, fX = k + 1 := ⟨fX - 1, by omega⟩
    show fL_law_182b N L xs q798 _ σ _ _ _ (nI e) = _
    unfold fL_law_182b
    rw [if_pos (cL_le 40 (by omega) (by omega))]
    exact hq σ rule len r I
  | succ k ih =>
    intro e fX σ rule len r I he hfX
    obtain ⟨a, rfl⟩ : ∃ k, fX = k + 1 := ⟨fX - 1, by omega⟩
    have hnx : Nx n t g e (fL_law_182 N L xs q798 a) := fun σ' rule' len' r' I' => ih (e + 1) a σ' rule' len' r' I' (by omega) (by omega)
    have x1 : (1 : Int32) + (2 : Int32) * nI e = nI (1 + 2 * e) := by rw [li1, li2, pk_mul, nI_add]
    have x2 : (2 : Int32) + (2 : Int32) * nI e = nI (2 + 2 * e) := by rw [li2, pk_mul, nI_add]
    obtain ⟨w1, e1⟩ := L_cell (L := L) (xs := xs) hL (j := 1 + 2 * e) (by omega)
    obtain ⟨w2, e2⟩ := L_cell (L := L) (xs := xs) hL (j := 2 + 2 * e) (by omega)
    show fL_law_182b N L xs q798 (fL_law_182 N L xs q798 a) σ _ _ _ (nI e) = _
    unfold fL_law_182b
    rw [if_neg (cL_nle 40 (by omega) (by omega)), x1, x2, e1, bd0_e, e2, bd0_e]
    by_cases h : nI n ≤ nI e
    · obtain ⟨j, hj, e3⟩ := L_low (w1 >>> ((20 : Int32) &&& 31)) (n := 10) (by omega) (by omega)
      rw [if_pos h, show fL_low (w1 >>> ((20 : Int32) &&& 31)) (10 : Int32) = _ from e3, bd0_e]
      exact lw_233 hN hnx I (by omega) w1 w2 _
    · rw [if_neg h]
      exact lw_233 hN hnx I (by omega) w1 w2 _
theorem lw_87 {N L : Nat} {xs : Nat → Int32} {σ : St} {n t g : Nat} (hN : 2000 ≤ N) (hL : L ≤ 260) (I : Iv σ 4 1 720720 0 0 0) (n2 : 2 ≤ n) (n10 : n ≤ 10) (t3 : t ≤ 3) (g1 : 1 ≤ g) (g7 : g ≤ 720720) : fL_law_87 N L xs σ (nI n) (nI t) (nI g) = some 1 := by
  obtain ⟨σ1, e1, I1, h1, -⟩ := X_reset hN I n2 n10 t3 g1 g7
  have hlk : nI (lk σ1 3 n n) = nI n * nI n - nI n := by
    rw [lk_all n10 (by omega) h1, pk_mul, Nat.mul_sub, Nat.mul_one]
    exact (pk_sub (Nat.le_mul_of_pos_left n (by omega))).symm
  have cc := X_counts hN I1
  unfold fL_law_87
  rw [e1, bd2_e, if_pos (show nI 4 = 4 from rfl), (X_reset_bad σ1 N).1, bd2_e, if_pos rfl, (X_reset_bad σ1 N).2.1, bd2_e, if_pos rfl, (X_reset_bad σ1 N).2.2, bd2_e, if_pos rfl, cc.1, bd2_e, if_pos rfl, cc.2.2.2.2.2.1, bd2_e, if_pos hlk, cc.2.2.2.2.2.2.2, bd2_e, if_pos rfl]
  refine lw_loop hN hL (fun τ rule len r J => ?_) 40 0 N σ1 0 0 0 (Ig.zero I1) (by omega) (by omega)
  rw [X_most_bad, bd2_e, if_pos rfl, X_strat_bad τ J.1, bd2_e, if_pos rfl, (X_run_bad τ N).1, bd2_e, if_pos rfl, (X_run_bad τ N).2, bd2_e, if_pos rfl]
theorem L_law {N L : Nat} {xs : Nat → Int32} {σ : St} (hN : 2000 ≤ N) (hL : L ≤ 260) (I : Iv σ 4 1 720720 0 0 0) : fL_law N L xs σ = some 1 := by
  obtain ⟨w, e0⟩ := L_cell (L := L) (xs := xs) hL (j := 0) (by omega)
  obtain ⟨d, hd, e1⟩ := L_low w (n := 9) (by omega) (by omega)
  obtain ⟨t, ht, e2⟩ := L_low (w >>> ((5 : Int32) &&& 31)) (n := 4) (by omega) (by omega)
  obtain ⟨j, hj, e3⟩ := L_low (w >>> ((9 : Int32) &&& 31)) (n := 5) (by omega) (by omega)
  have hn : (2 : Int32) + nI d = nI (2 + d) := by rw [li2, nI_add]
  have key : ∀ g, 1 ≤ g → g ≤ 720720 → fL_law_87 N L xs σ (nI (2 + d)) (nI t) (nI g) = some 1 := fun g g1 g7 => lw_87 hN hL I (by omega) (by omega) (by omega) g1 g7
  unfold fL_law
  rw [show fL_cell L xs (0 : Int32) = _ from e0, bd0_e, show fL_low w (9 : Int32) = _ from e1, bd0_e, lt1_e, hn, show fL_low (w >>> ((5 : Int32) &&& 31)) (4 : Int32) = _ from e2, bd0_e, show fL_low (w >>> ((9 : Int32) &&& 31)) (5 : Int32) = _ from e3, bd0_e]
  by_cases h0 : nI j = 0
  · rw [if_pos h0]; exact key 1 (by omega) (by omega)
  · rw [if_neg h0]
    by_cases h1 : nI j = 1
    · rw [if_pos h1]; exact key 6 (by omega) (by omega)
    · rw [if_neg h1]
      by_cases h2 : nI j = 2
      · rw [if_pos h2]; exact key 60 (by omega) (by omega)
      · rw [if_neg h2]
        by_cases h3 : nI j = 3
        · rw [if_pos h3]; exact key 420 (by omega) (by omega)
        · rw [if_neg h3]; exact key 720720 (by omega) (by omega)
theorem st0_iv {σ : St} (h : fX2_startAnew 2000 st0 4 1 720720 = some σ) : Iv σ 4 1 720720 0 0 0 :=
  (start_iv (σ := st0) (n := 4) (t := 1) (g := 720720) (len := 0) (N := 2000) (Nat.le_refl _) rfl (by omega) (fun j _ => by show vp_nar .char 0 = 0; decide) (by omega) (by omega) (by omega) (by omega) (by omega) h).1
