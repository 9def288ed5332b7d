/-! the least and the greatest ends: class and reference -/
theorem ex_more {f : Nat → Int64} {c : Nat → Bool} {gr : Bool} {n : Nat} : ∀ j, (∀ p, n ≤ p → p < n + j → c p = false) → ex f c gr (n + j) = ex f c gr n
  | 0, _ => rfl
  | j + 1, h => by
    show (if c (n + j) = true then _ else ex f c gr (n + j)) = _
    rw [if_neg (by rw [h (n + j) (by omega) (by omega)]; decide)]
    exact ex_more j (fun p h1 h2 => h p h1 (by omega))
theorem le_nlt {x y : Int64} (h : x ≤ y) : ¬ y < x := fun q => by rw [fa_le64] at h; rw [fa_lt64] at q; omega
theorem nle_lt {x y : Int64} (h : ¬ x ≤ y) : y < x := by rw [fa_lt64]; have := mt (fa_le64 x y).mpr h; omega
theorem X_ext_loop {σ : St} {N k m s e : Nat} {gr : Int32} {q : St → Int64 → Option (Int64 × St)} (hs : (s = 0 ∧ e = 4) ∨ (s = 1 ∧ e = 5)) (hk : k ≤ 60) (hm : m < 1024) : ∀ (j i fuel : Nat), i + j = 10 → j < fuel →
    fX0_extremeEnd_26 N 3 q fuel σ (nI k) (nI m) gr e (ex (fun p => val σ k p s) (fun p => m.testBit p) (decide (¬ gr = 0)) i).1 (if (ex (fun p => val σ k p s) (fun p => m.testBit p) (decide (¬ gr = 0)) i).2 = true then 1 else 0) (nI i) = q σ (ex (fun p => val σ k p s) (fun p => m.testBit p) (decide (¬ gr = 0)) 10).1 := by
  intro j
  induction j with
  | zero =>
    intro i fuel hi hf
    obtain ⟨f, rfl⟩ : ∃ f, fuel = f + 1 := ⟨fuel - 1, by omega⟩
    have hi : i = 10 := by omega
    subst hi
    generalize (ex (fun p => val σ k p s) (fun p => m.testBit p) (decide (¬ gr = 0)) 10) = z
    show fX0_extremeEnd_26b N 3 q _ σ (nI k) (nI m) gr e _ _ (nI 10) = _
    unfold fX0_extremeEnd_26b
    rw [if_pos (cL_le 10 (Nat.le_refl _) (by omega))]
  | succ j ih =>
    intro i fuel hi hf
    obtain ⟨f, rfl⟩ : ∃ f, fuel = f + 1 := ⟨fuel - 1, by omega⟩
    have ih := ih (i + 1) f (by omega) (by omega)
    have hL : isL e = true := by rcases hs with ⟨-, rfl⟩ | ⟨-, rfl⟩ <;> decide
    have hln : ln e = 610 := by rcases hs with ⟨-, rfl⟩ | ⟨-, rfl⟩ <;> decide
    have hv : gG σ (la e) (10 * k + i) = val σ k i s := by rcases hs with ⟨rfl, rfl⟩ | ⟨rfl, rfl⟩ <;> rfl
    have hbit := mask_get m hm i (by omega)
    have e121 : ∀ (a : Int64) (fd by' : Int32), fX0_extremeEnd_121 N 3 (fX0_extremeEnd_26 N 3 q f) σ (nI k) (nI m) gr e a fd (nI i) (nI (10 * k + i)) by' = fX0_extremeEnd_26 N 3 q f σ (nI k) (nI m) gr e (if fd = 0 then val σ k i s else if by' = 0 then a else val σ k i s) 1 (nI (i + 1)) := by
      intro a fd by'
      unfold fX0_extremeEnd_121
      rw [if_neg (show ¬ isL e = false from by rw [hL]; decide), hln, if_neg (nI_in (by omega) (by omega)), nI_clamp (by omega), hv]
      simp only [lt1, nI_1]
      by_cases h1 : fd = 0
      · rw [if_pos h1, if_pos h1]
      · rw [if_neg h1, if_neg h1]
        by_cases h2 : by' = 0
        · rw [if_pos h2, if_pos h2]
        · rw [if_neg h2, if_neg h2]
    have e61 : ∀ (a : Int64) (fd : Int32), fX0_extremeEnd_61 N 3 (fX0_extremeEnd_26 N 3 q f) σ (nI k) (nI m) gr e a fd (nI i) (nI (10 * k + i)) 1 = fX0_extremeEnd_26 N 3 q f σ (nI k) (nI m) gr e (if fd = 0 then val σ k i s else if (decide (¬ gr = 0)) = true then (if a < val σ k i s then val σ k i s else a) else (if val σ k i s < a then val σ k i s else a)) 1 (nI (i + 1)) := by
      intro a fd
      unfold fX0_extremeEnd_61
      rw [if_neg z10, if_neg (nI_pos (by omega)), if_neg (show ¬ isL e = false from by rw [hL]; decide), hln, if_neg (show ¬ Int32.ofNat 610 ≤ nI (10 * k + i) from nI_ge (b := 610) (by omega) (by omega))]
      by_cases hg : gr = 0
      · rw [if_pos hg, if_neg (nI_in (by omega) (by omega)), nI_clamp (by omega), hv, e121, e121, if_pos rfl, if_neg z10]
        simp only [hg, not_true, decide_false, Bool.false_eq_true, if_false]
        by_cases h1 : a ≤ val σ k i s
        · rw [if_pos h1, if_neg (le_nlt h1)]
        · rw [if_neg h1, if_pos (nle_lt h1)]
      · rw [if_neg hg, if_neg (nI_in (by omega) (by omega)), nI_clamp (by omega), hv, e121, e121, if_pos rfl, if_neg z10]
        simp only [hg, not_false_iff, decide_true, if_true]
        by_cases h1 : val σ k i s ≤ a
        · rw [if_pos h1, if_neg (le_nlt h1)]
        · rw [if_neg h1, if_pos (nle_lt h1)]
    have e0 : ∀ (a : Int64) (fd : Int32), fX0_extremeEnd_61 N 3 (fX0_extremeEnd_26 N 3 q f) σ (nI k) (nI m) gr e a fd (nI i) (nI (10 * k + i)) 0 = fX0_extremeEnd_26 N 3 q f σ (nI k) (nI m) gr e a fd (nI (i + 1)) := by
      intro a fd
      unfold fX0_extremeEnd_61
      rw [if_pos rfl]
      simp only [lt1, nI_1]
    show fX0_extremeEnd_26b N 3 q (fX0_extremeEnd_26 N 3 q f) σ (nI k) (nI m) gr e _ _ (nI i) = _
    unfold fX0_extremeEnd_26b
    rw [if_neg (cL_nle 10 (by omega) (by omega))]
    simp only [lt1]
    rw [ix10, show k * 10 + i = 10 * k + i from by omega]
    refine Eq.trans ?_ ih
    by_cases hb : m.testBit i = true
    · rw [if_pos (hbit.mpr hb), e61]
      generalize hz : ex (fun p => val σ k p s) (fun p => m.testBit p) (decide (¬ gr = 0)) i = z
      have hz1 : ex (fun p => val σ k p s) (fun p => m.testBit p) (decide (¬ gr = 0)) (i + 1) = (if z.2 = false then val σ k i s else if (decide (¬ gr = 0)) = true then (if z.1 < val σ k i s then val σ k i s else z.1) else (if val σ k i s < z.1 then val σ k i s else z.1), true) := by
        rw [← hz]
        show (if m.testBit i = true then _ else _) = _
        rw [if_pos hb]
      rw [hz1]
      by_cases h2 : z.2 = true
      · simp only [h2, if_true, z10, if_false, Bool.true_eq_false]
      · have h3 : z.2 = false := by cases h : z.2 <;> simp_all
        simp only [h3, Bool.false_eq_true, if_false, if_true]
    · rw [if_neg (fun q => hb (hbit.mp q)), e0]
      have hz1 : ex (fun p => val σ k p s) (fun p => m.testBit p) (decide (¬ gr = 0)) (i + 1) = ex (fun p => val σ k p s) (fun p => m.testBit p) (decide (¬ gr = 0)) i := by
        show (if m.testBit i = true then _ else _) = _
        rw [if_neg hb]
      rw [hz1]
theorem X_ext {σ : St} {n N k : Nat} {hi gr : Int32} (hN : 2000 ≤ N) (h10 : n ≤ 10) (hk : k ≤ 60) : fX0_extremeEnd N σ 3 (nI k) (nI (mask (cor σ) n)) hi gr = some ((ex (fun p => val σ k p (sd hi)) (cor σ) (decide (¬ gr = 0)) n).1, σ) := by
  have hm : mask (cor σ) n < 1024 := by have h1 := mask_lt (cor σ) n; have h2 : 2 ^ n ≤ 2 ^ 10 := Nat.pow_le_pow_right (by omega) h10; omega
  have hex : ∀ s, ex (fun p => val σ k p s) (fun p => (mask (cor σ) n).testBit p) (decide (¬ gr = 0)) 10 = ex (fun p => val σ k p s) (cor σ) (decide (¬ gr = 0)) n := by
    intro s
    have h1 := ex_more (f := fun p => val σ k p s) (c := fun p => (mask (cor σ) n).testBit p) (gr := decide (¬ gr = 0)) (n := n) (10 - n) (fun p hp _ => by
      show (mask (cor σ) n).testBit p = false
      rw [mask_bit, decide_eq_false (by omega)]; rfl)
    rw [show n + (10 - n) = 10 from by omega] at h1
    rw [h1]
    exact ex_cong n (fun p hp => by
      show (mask (cor σ) n).testBit p = cor σ p
      rw [mask_bit, decide_eq_true hp]; rfl) (fun _ _ _ => rfl)
  unfold fX0_extremeEnd fX0_extremeEnd_15
  rw [if_neg (show ¬ isT 3 = false from by decide)]
  by_cases h : hi = 0
  · rw [if_pos h]
    refine Eq.trans (X_ext_loop (s := 0) (e := 4) (Or.inl ⟨rfl, rfl⟩) hk hm 10 0 N rfl (by omega)) ?_
    rw [hex, show sd hi = 0 from by unfold sd; rw [if_pos h]]
  · rw [if_neg h]
    refine Eq.trans (X_ext_loop (s := 1) (e := 5) (Or.inr ⟨rfl, rfl⟩) hk hm 10 0 N rfl (by omega)) ?_
    rw [hex, show sd hi = 1 from by unfold sd; rw [if_neg h]]
/-- the reference's fold, over any ends that it reads -/
theorem M_out_step {σ τ : St} {N i s : Nat} {rd : Int32} {q8 : St → Int32 → Int32 → Int32 → Int64 → Int32 → Option (Int64 × St)} {f : Nat → Int64} (hc : cor σ i = true) (hs : s < 2) (hi : i < 10) :
    fX3_outermost_52 N q8 τ rd (nI s) (if (ex f (cor σ) (decide (s = 1)) i).2 = true then 1 else 0) (ex f (cor σ) (decide (s = 1)) i).1 (nI i) (f i) = q8 τ rd (nI s) (if (ex f (cor σ) (decide (s = 1)) (i + 1)).2 = true then 1 else 0) (ex f (cor σ) (decide (s = 1)) (i + 1)).1 (nI (i + 1)) := by
  generalize hz : ex f (cor σ) (decide (s = 1)) i = z
  have hz1 : ex f (cor σ) (decide (s = 1)) (i + 1) = (if z.2 = false then f i else if (decide (s = 1)) = true then (if z.1 < f i then f i else z.1) else (if f i < z.1 then f i else z.1), true) := by
    rw [← hz]
    show (if cor σ i = true then _ else _) = _
    rw [if_pos hc]
  rw [hz1]
  unfold fX3_outermost_52
  simp only [lt1, nI_1]
  by_cases h2 : z.2 = true
  · simp only [h2, if_true, z10, if_false, Bool.true_eq_false]
    by_cases h3 : s = 1
    · subst h3
      rw [if_neg (by decide)]
      simp only [decide_true, if_true]
      by_cases h4 : f i ≤ z.1
      · rw [if_pos h4, if_neg (le_nlt h4)]
      · rw [if_neg h4, if_pos (nle_lt h4)]
    · have h0 : s = 0 := by omega
      subst h0
      rw [if_pos (show nI 0 = (0 : Int32) from rfl)]
      simp only [decide_false, Bool.false_eq_true, if_false, show ¬ (0 : Nat) = 1 from by decide]
      by_cases h4 : z.1 ≤ f i
      · rw [if_pos h4, if_neg (le_nlt h4)]
      · rw [if_neg h4, if_pos (nle_lt h4)]
  · have h3 : z.2 = false := by cases h : z.2 <;> simp_all
    simp only [h3, Bool.false_eq_true, if_false, if_true]
theorem M_out_loop {σ τ : St} {n t g rule len N k s : Nat} {q : St → Int64 → Option (Int64 × St)} (R : RP σ τ n t g rule len) (hk : k ≤ 60) (hs : s < 2) : ∀ (j i fuel : Nat), i + j = n → j < fuel →
    fX3_outermost_8 N q fuel τ (nI k) (nI s) (if (ex (fun p => gG τ 4 (20 * k + 2 * p + s)) (cor σ) (decide (s = 1)) i).2 = true then 1 else 0) (ex (fun p => gG τ 4 (20 * k + 2 * p + s)) (cor σ) (decide (s = 1)) i).1 (nI i) = q τ (ex (fun p => gG τ 4 (20 * k + 2 * p + s)) (cor σ) (decide (s = 1)) n).1 := by
  have h10 := R.n10
  intro j
  induction j with
  | zero =>
    intro i fuel hi hf
    obtain ⟨f, rfl⟩ : ∃ f, fuel = f + 1 := ⟨fuel - 1, by omega⟩
    have hi : i = n := by omega
    subst hi
    generalize (ex (fun p => gG τ 4 (20 * k + 2 * p + s)) (cor σ) (decide (s = 1)) i) = z
    show fX3_outermost_8b N q _ τ (nI k) (nI s) _ _ (nI i) = _
    unfold fX3_outermost_8b
    rw [R.mn, if_pos (nI_le (Nat.le_refl _) (by omega))]
  | succ j ih =>
    intro i fuel hi hf
    obtain ⟨f, rfl⟩ : ∃ f, fuel = f + 1 := ⟨fuel - 1, by omega⟩
    refine Eq.trans ?_ (ih (i + 1) f (by omega) (by omega))
    show fX3_outermost_8b N q (fX3_outermost_8 N q f) τ (nI k) (nI s) _ _ (nI i) = _
    unfold fX3_outermost_8b
    rw [R.mn, if_neg (nI_nge (by omega) (by omega)), M_isCorrect R (by omega)]
    simp only [bd2, lt1, nI_1]
    by_cases hc : cor σ i = true
    · rw [if_pos hc, if_neg z10, if_pos (nI_pos' (by omega)), M_end (by omega)]
      exact M_out_step (f := fun p => gG τ 4 (20 * k + 2 * p + s)) hc hs (by omega)
    · rw [if_neg hc, if_pos rfl]
      have hz1 : ex (fun p => gG τ 4 (20 * k + 2 * p + s)) (cor σ) (decide (s = 1)) (i + 1) = ex (fun p => gG τ 4 (20 * k + 2 * p + s)) (cor σ) (decide (s = 1)) i := by
        show (if cor σ i = true then _ else _) = _
        rw [if_neg hc]
      rw [hz1]
theorem M_out {σ τ : St} {n t g rule len N r k s : Nat} (hN : 2000 ≤ N) (R : RP σ τ n t g rule len) (V : RV σ τ n r) (hk : k ≤ r) (hs : s < 2) : fX3_outermost N τ (nI k) (nI s) = some ((ex (fun p => val σ k p s) (cor σ) (decide (s = 1)) n).1, τ) := by
  have h10 := R.n10
  have h60 := V.2.2.1
  unfold fX3_outermost
  refine Eq.trans (M_out_loop R (by omega) hs n 0 N (by omega) (by omega)) ?_
  rw [ex_cong (f' := fun p => val σ k p s) (c' := cor σ) n (fun _ _ => rfl) (fun p hp hc => (V.2.2.2 k p s hk hp hs (cor_t.mp hc)).1)]
/-- over the inputs -/
def inp (σ : St) (p s : Nat) : Int64 := if s = 0 then gG σ 0 p else gG σ 1 p
theorem val_0 (σ : St) (p s : Nat) : val σ 0 p s = inp σ p s := by unfold val inp; simp
theorem M_inp {σ τ : St} {n t g rule len p s : Nat} (R : RP σ τ n t g rule len) (hp : p < 10) (hs : s < 2) : gG τ 0 (2 * p + s) = inp σ p s := by
  have h := R.mi p hp
  rcases (show s = 0 ∨ s = 1 by omega) with rfl | rfl
  · exact h.1
  · exact h.2.1
theorem M_outI_loop {σ τ : St} {n t g rule len N s : Nat} {q : St → Int64 → Option (Int64 × St)} (R : RP σ τ n t g rule len) (hs : s < 2) : ∀ (j i fuel : Nat), i + j = n → j < fuel →
    fX3_outermost_8 N q fuel τ (-1) (nI s) (if (ex (fun p => inp σ p s) (cor σ) (decide (s = 1)) i).2 = true then 1 else 0) (ex (fun p => inp σ p s) (cor σ) (decide (s = 1)) i).1 (nI i) = q τ (ex (fun p => inp σ p s) (cor σ) (decide (s = 1)) n).1 := by
  have h10 := R.n10
  intro j
  induction j with
  | zero =>
    intro i fuel hi hf
    obtain ⟨f, rfl⟩ : ∃ f, fuel = f + 1 := ⟨fuel - 1, by omega⟩
    have hi : i = n := by omega
    subst hi
    generalize (ex (fun p => inp σ p s) (cor σ) (decide (s = 1)) i) = z
    show fX3_outermost_8b N q _ τ (-1) (nI s) _ _ (nI i) = _
    unfold fX3_outermost_8b
    rw [R.mn, if_pos (nI_le (Nat.le_refl _) (by omega))]
  | succ j ih =>
    intro i fuel hi hf
    obtain ⟨f, rfl⟩ : ∃ f, fuel = f + 1 := ⟨fuel - 1, by omega⟩
    refine Eq.trans ?_ (ih (i + 1) f (by omega) (by omega))
    show fX3_outermost_8b N q (fX3_outermost_8 N q f) τ (-1) (nI s) _ _ (nI i) = _
    unfold fX3_outermost_8b
    rw [R.mn, if_neg (nI_nge (by omega) (by omega)), M_isCorrect R (by omega)]
    simp only [bd2, lt1, nI_1]
    by_cases hc : cor σ i = true
    · rw [if_pos hc, if_neg z10, if_neg (show ¬ (0 : Int32) ≤ -1 from by decide), ix2, if_neg (nI_in (by omega) (by omega)), nI_clamp (by omega), M_inp R (by omega) hs]
      exact M_out_step (f := fun p => inp σ p s) hc hs (by omega)
    · rw [if_neg hc, if_pos rfl]
      have hz1 : ex (fun p => inp σ p s) (cor σ) (decide (s = 1)) (i + 1) = ex (fun p => inp σ p s) (cor σ) (decide (s = 1)) i := by
        show (if cor σ i = true then _ else _) = _
        rw [if_neg hc]
      rw [hz1]
theorem M_outI {σ τ : St} {n t g rule len N s : Nat} (hN : 2000 ≤ N) (R : RP σ τ n t g rule len) (hs : s < 2) : fX3_outermost N τ (-1) (nI s) = some ((ex (fun p => inp σ p s) (cor σ) (decide (s = 1)) n).1, τ) := by
  have h10 := R.n10
  unfold fX3_outermost
  exact M_outI_loop R hs n 0 N (by omega) (by omega)
