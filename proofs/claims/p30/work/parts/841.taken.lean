theorem mod_half {b r : Nat} (h0 : 0 < r) (h : r < b) : 2 * (b % r) < b := by
  have h1 := Nat.mod_lt b h0
  have h2 := Nat.div_add_mod b r
  have h3 : 1 ≤ b / r := Nat.div_pos (by omega) h0
  have h4 : r * 1 ≤ r * (b / r) := Nat.mul_le_mul_left r h3
  omega
theorem X_gcd_loop {N : Nat} {q : Int64 → Option Int64} : ∀ (m a b s fuel : Nat), b < 2 ^ m → a < 9223372036854775808 → b < 9223372036854775808 → s + 2 * m + 2 ≤ 1000 → 2 * m + 2 ≤ fuel → fX2_greatestCommonDivisor_9 N q fuel (lN a) (lN b) (nI s) = q (lN (Nat.gcd a b)) := by
  intro m
  induction m with
  | zero =>
    intro a b s fuel hb ha _ hs hf
    obtain ⟨f, rfl⟩ : ∃ f, fuel = f + 1 := ⟨fuel - 1, by omega⟩
    have hb0 : b = 0 := by omega
    subst hb0
    show fX2_greatestCommonDivisor_9b N q _ (lN a) (lN 0) (nI s) = _
    unfold fX2_greatestCommonDivisor_9b
    rw [if_neg (cL_nle 1000 (a := s) (by omega) (by omega)), if_pos (dR_eq 0 rfl), Nat.gcd_zero_right]
  | succ m ih =>
    intro a b s fuel hb ha hb63 hs hf
    obtain ⟨f, rfl⟩ : ∃ f, fuel = f + 2 := ⟨fuel - 2, by omega⟩
    show fX2_greatestCommonDivisor_9b N q (fX2_greatestCommonDivisor_9 N q (f + 1)) (lN a) (lN b) (nI s) = _
    unfold fX2_greatestCommonDivisor_9b
    rw [if_neg (cL_nle 1000 (a := s) (by omega) (by omega))]
    by_cases h0 : b = 0
    · subst h0
      rw [if_pos (dR_eq 0 rfl), Nat.gcd_zero_right]
    · have hne : ¬ lN b = (0 : Int64) := fun h => h0 ((pk_lEQ (b := 0) (by omega) (by omega)).mp h)
      rw [if_neg hne, if_neg hne]
      simp only [lt1]
      rw [pk_lRem (by omega) (by omega) (by omega), show nI s + (1 : Int32) = nI (s + 1) from nI_1 s]
      have hr : a % b < b := Nat.mod_lt _ (by omega)
      show fX2_greatestCommonDivisor_9b N q (fX2_greatestCommonDivisor_9 N q f) (lN b) (lN (a % b)) (nI (s + 1)) = _
      unfold fX2_greatestCommonDivisor_9b
      rw [if_neg (cL_nle 1000 (a := s + 1) (by omega) (by omega))]
      have hg : Nat.gcd a b = Nat.gcd b (a % b) := by rw [Nat.gcd_comm a b, Nat.gcd_rec b a, Nat.gcd_comm]
      by_cases h1 : a % b = 0
      · rw [h1, if_pos (dR_eq 0 rfl), hg, h1, Nat.gcd_zero_right]
      · have hne1 : ¬ lN (a % b) = (0 : Int64) := fun h => h1 ((pk_lEQ (b := 0) (by omega) (by omega)).mp h)
        rw [if_neg hne1, if_neg hne1]
        simp only [lt1]
        rw [pk_lRem (by omega) (by omega) (by omega), show nI (s + 1) + (1 : Int32) = nI (s + 1 + 1) from nI_1 _]
        have h2 := mod_half (b := b) (r := a % b) (by omega) hr
        rw [ih (a % b) (b % (a % b)) (s + 1 + 1) f (by rw [Nat.pow_succ] at hb; omega) (by omega) (by omega) (by omega) (by omega), hg]
        congr 2
        rw [Nat.gcd_comm b, Nat.gcd_rec (a % b) b, Nat.gcd_comm]
theorem X_gcd {N : Nat} (hN : 2000 ≤ N) {a b : Nat} (ha : a < 9223372036854775808) (hb : b < 9223372036854775808) : fX2_greatestCommonDivisor N (lN a) (lN b) = some (lN (Nat.gcd a b)) := by
  unfold fX2_greatestCommonDivisor
  exact X_gcd_loop 63 a b 0 N (by omega) ha hb (by omega) (by omega)
theorem abs_of {a : Int64} (h : -9223372036854775808 < a.toInt) : ∃ k : Nat, k < 9223372036854775808 ∧ (if (0 : Int64) ≤ a then a else -a) = lN k ∧ (k : Int) = a.toInt.natAbs := by
  by_cases h0 : (0 : Int64) ≤ a
  · have h1 := (fa_le64 _ _).mp h0
    have h2 : (0 : Int64).toInt = 0 := rfl
    have h3 := fb_rngL a
    refine ⟨a.toInt.toNat, by omega, ?_, by omega⟩
    rw [if_pos h0, fa_eq64, pk_lT (by omega)]
    omega
  · have h1 : ¬ (0 : Int64).toInt ≤ a.toInt := fun h => h0 ((fa_le64 _ _).mpr h)
    have h2 : (0 : Int64).toInt = 0 := rfl
    have h3 := fb_rngL a
    refine ⟨(-a.toInt).toNat, by omega, ?_, by omega⟩
    rw [if_neg h0, fa_eq64, pk_lT (by omega), Int64.toInt_neg, fb_bmodL (by omega) (by omega)]
    omega
theorem J_abs (a : Int64) : fJ9_abs_067f4 a = some (if (0 : Int64) ≤ a then a else -a) := by
  unfold fJ9_abs_067f4
  by_cases h : (0 : Int64) ≤ a
  · rw [if_pos h, if_pos h]
  · rw [if_neg h, if_neg h]
def frac (a : Int64) (b : Nat) (z : Int32) : Int64 := if z = 0 then a / lN (Nat.gcd a.toInt.natAbs b) else lN b / lN (Nat.gcd a.toInt.natAbs b)
theorem X_frac {N : Nat} (hN : 2000 ≤ N) {a : Int64} {b : Nat} (ha : -9223372036854775808 < a.toInt) (hb0 : 0 < b) (hb : b < 9223372036854775808) (z : Int32) : fX2_inLowestTerms N a (lN b) z = some (frac a b z) := by
  obtain ⟨k, hk, e, hka⟩ := abs_of ha
  have hka : k = a.toInt.natAbs := by omega
  unfold fX2_inLowestTerms frac
  rw [J_abs, e]
  unfold bd0
  simp only [X_gcd hN hk hb]
  subst hka
  have hg : 0 < Nat.gcd a.toInt.natAbs b := Nat.gcd_pos_of_pos_right _ hb0
  have hg2 : Nat.gcd a.toInt.natAbs b ≤ b := Nat.gcd_le_right _ hb0
  have hne : ¬ lN (Nat.gcd a.toInt.natAbs b) = (0 : Int64) := fun h => by have := (pk_lEQ (b := 0) (by omega) (by omega)).mp h; omega
  rw [if_pos (dL_le 1 hg (by omega)), if_neg hne, if_neg hne]
  by_cases hz : z = 0
  · rw [if_pos hz, if_pos hz]
  · rw [if_neg hz, if_neg hz]
theorem frac_0 (z : Int32) : frac 0 1 z = if z = 0 then 0 else 1 := by
  unfold frac
  by_cases hz : z = 0
  · rw [if_pos hz, if_pos hz]; decide
  · rw [if_neg hz, if_neg hz]; decide
theorem frac_1 (b : Nat) (hb0 : 0 < b) (hb : b < 9223372036854775808) (z : Int32) : frac 1 b z = if z = 0 then 1 else lN b := by
  unfold frac
  have e : Nat.gcd (1 : Int64).toInt.natAbs b = 1 := by
    show Nat.gcd 1 b = 1
    exact Nat.gcd_one_left b
  rw [e]
  by_cases hz : z = 0
  · rw [if_pos hz, if_pos hz]; decide
  · rw [if_neg hz, if_neg hz, pk_lDiv (by omega) (by omega) (by omega), Nat.div_one]
def bnd (x : Int64) : Prop := -7207200000 ≤ x.toInt ∧ x.toInt ≤ 7207200000
def val (σ : St) (k p s : Nat) : Int64 := if s = 0 then gG σ 0 (10 * k + p) else gG σ 1 (10 * k + p)
def cor (σ : St) (p : Nat) : Bool := decide (gF σ 2 p = 0)
def sd (h : Int32) : Nat := if h = 0 then 0 else 1
theorem sd_lt (h : Int32) : sd h < 2 := by unfold sd; by_cases q : h = 0 <;> simp [q]
theorem sd_0 : sd 0 = 0 := rfl
theorem sd_1 : sd 1 = 1 := rfl
theorem cor_t {σ : St} {p : Nat} : cor σ p = true ↔ gF σ 2 p = 0 := by unfold cor; exact decide_eq_true_iff
theorem cor_f {σ : St} {p : Nat} : cor σ p = false ↔ ¬ gF σ 2 p = 0 := by unfold cor; exact decide_eq_false_iff_not
theorem X_end {σ : St} {k p : Nat} (hi : Int32) (h : 10 * k + p < 610) : fX0_end σ 3 (nI k) (nI p) hi = some (val σ k p (sd hi), σ) := by
  unfold fX0_end
  rw [if_neg (show ¬ isT 3 = false from by decide)]
  simp only [lt1]
  rw [ix10, show k * 10 + p = 10 * k + p from by omega, if_neg (nI_pos (by omega)), if_neg (show ¬ isL (3 + 1) = false from by decide), if_neg (show ¬ Int32.ofNat (ln (3 + 1)) ≤ nI (10 * k + p) from nI_ge (b := 610) h (by omega)), if_neg (show ¬ isL (3 + 2) = false from by decide), if_pos (show nI (10 * k + p) < Int32.ofNat (ln (3 + 2)) from nI_lt (b := 610) h (by omega)), if_neg (nI_in (N := ln (3 + 1)) h (by decide)), if_neg (nI_in (N := ln (3 + 2)) h (by decide)), nI_clamp (by omega)]
  unfold val sd
  by_cases q : hi = 0
  · rw [if_pos q, if_pos q, if_pos rfl]; rfl
  · rw [if_neg q, if_neg q, if_neg (by decide)]; rfl
def lie (σ : St) (p q s : Nat) : Int64 := if s = 0 then gG σ 2 (10 * p + q) else gG σ 3 (10 * p + q)
theorem X_lie {σ : St} {k p : Nat} (hi : Int32) (h : 10 * k + p < 100) : fX0_end σ 6 (nI k) (nI p) hi = some (lie σ k p (sd hi), σ) := by
  unfold fX0_end
  rw [if_neg (show ¬ isT 6 = false from by decide)]
  simp only [lt1]
  rw [ix10, show k * 10 + p = 10 * k + p from by omega, if_neg (nI_pos (by omega)), if_neg (show ¬ isL (6 + 1) = false from by decide), if_neg (show ¬ Int32.ofNat (ln (6 + 1)) ≤ nI (10 * k + p) from nI_ge (b := 100) h (by omega)), if_neg (show ¬ isL (6 + 2) = false from by decide), if_pos (show nI (10 * k + p) < Int32.ofNat (ln (6 + 2)) from nI_lt (b := 100) h (by omega)), if_neg (nI_in (N := ln (6 + 1)) h (by decide)), if_neg (nI_in (N := ln (6 + 2)) h (by decide)), nI_clamp (by omega)]
  unfold lie sd
  by_cases q : hi = 0
  · rw [if_pos q, if_pos q, if_pos rfl]; rfl
  · rw [if_neg q, if_neg q, if_neg (by decide)]; rfl
theorem X_isNode {σ : St} {n p : Nat} (hn : gI σ 0 = nI n) (h : p < n) (h10 : n ≤ 10) : fX2_isNode σ (nI p) = some (1, σ) := by
  unfold fX2_isNode
  rw [if_neg (nI_pos (by omega)), hn, if_neg (nI_nge h (by omega))]
theorem X_isNode_out {σ : St} {n : Nat} {a : Int32} (hn : gI σ 0 = nI n) (h : a < 0 ∨ nI n ≤ a) : fX2_isNode σ a = some (0, σ) := by
  unfold fX2_isNode
  by_cases h1 : a < 0
  · rw [if_pos h1]
  · rw [if_neg h1, hn, if_pos (h.resolve_left h1)]
theorem X_isCorrect {σ : St} {n p : Nat} (hn : gI σ 0 = nI n) (h : p < n) (h10 : n ≤ 10) : fX2_isCorrect σ (nI p) = some (if cor σ p = true then 1 else 0, σ) := by
  unfold fX2_isCorrect
  rw [if_neg (nI_pos (by omega)), hn, if_neg (nI_nge h (by omega)), if_neg (nI_in (by omega) (by omega)), nI_clamp (by omega)]
  by_cases q : gF σ 2 p = 0
  · rw [if_pos q, if_pos (cor_t.mpr q)]
  · rw [if_neg q, if_neg (by rw [cor_f.mpr q]; decide)]
theorem X_isCorrect_out {σ : St} {n : Nat} {a : Int32} (hn : gI σ 0 = nI n) (h : a < 0 ∨ nI n ≤ a) : fX2_isCorrect σ a = some (0, σ) := by
  unfold fX2_isCorrect
  by_cases h1 : a < 0
  · rw [if_pos h1]
  · rw [if_neg h1, hn, if_pos (h.resolve_left h1)]
theorem X_delayOf {σ : St} {p q : Nat} (hp : p < 10) (hq : q < 10) : fX2_delayOf σ (nI p) (nI q) = some (gF σ 1 (10 * p + q), σ) := by
  unfold fX2_delayOf
  simp only [lt1]
  rw [ix10, show p * 10 + q = 10 * p + q from by omega, if_neg (nI_pos (by omega)), if_neg (cL_nle 100 (by omega) (by omega)), if_neg (nI_in (by omega) (by omega)), nI_clamp (by omega)]
theorem nI_m1 {f : Nat} (h : f ≤ 40) : ¬ nI f = (-1 : Int32) := fun q => by
  have := congrArg Int32.toInt q
  rw [nI_toInt (by omega)] at this
  have h : (-1 : Int32).toInt = -1 := rfl
  omega
theorem d_neg {x : Int32} (h : x = -1 ∨ ∃ d : Nat, d ≤ 3 ∧ x = nI d) : (x < 0 ↔ x = -1) := by
  rcases h with rfl | ⟨d, hd, rfl⟩
  · decide
  · constructor
    · intro q; exact absurd q (nI_pos (by omega))
    · intro q; exact absurd q (nI_m1 (by omega))
def mask (c : Nat → Bool) : Nat → Nat
  | 0 => 0
  | k + 1 => if c k = true then mask c k ||| 2 ^ k else mask c k
theorem mask_lt (c : Nat → Bool) : ∀ n, mask c n < 2 ^ n
  | 0 => Nat.one_pos
  | n + 1 => by
    have h := mask_lt c n
    unfold mask
    by_cases q : c n = true
    · rw [if_pos q]
      exact Nat.or_lt_two_pow (Nat.lt_of_lt_of_le h (Nat.pow_le_pow_right (by omega) (by omega))) (Nat.pow_lt_pow_right (by omega) (by omega))
    · rw [if_neg q]
      exact Nat.lt_of_lt_of_le h (Nat.pow_le_pow_right (by omega) (by omega))
theorem mask_bit (c : Nat → Bool) (k : Nat) : ∀ n, (mask c n).testBit k = (decide (k < n) && c k)
  | 0 => by simp [mask]
  | n + 1 => by
    have h := mask_bit c k n
    unfold mask
    by_cases q : c n = true
    · rw [if_pos q, fb_bit_set, h]
      by_cases e : k = n
      · subst e; simp [q]
      · have : decide (k < n + 1) = decide (k < n) := by
          by_cases z : k < n
          · simp [z]; omega
          · simp [z]; omega
        simp [e, this]
    · rw [if_neg q, h]
      by_cases e : k = n
      · subst e; simp [q]
      · have : decide (k < n + 1) = decide (k < n) := by
          by_cases z : k < n
          · simp [z]; omega
          · simp [z]; omega
        rw [this]
theorem shl1 : ∀ p, p < 10 → (1 : Int32) <<< (nI p &&& 31) = nI (2 ^ p) := by decide
theorem X_correctSet_loop {σ : St} {n N : Nat} {q : St → Int32 → Option (Int32 × St)} (hn : gI σ 0 = nI n) (h10 : n ≤ 10) : ∀ (k i fuel : Nat), i + k = n → k < fuel → fX2_correctSet_4 N q fuel σ (nI (mask (cor σ) i)) (nI i) = q σ (nI (mask (cor σ) n)) := by
  intro k
  induction k with
  | zero =>
    intro i fuel hi hf
    obtain ⟨f, rfl⟩ : ∃ f, fuel = f + 1 := ⟨fuel - 1, by omega⟩
    have hi : i = n := by omega
    subst hi
    show fX2_correctSet_4b N q _ σ _ (nI i) = _
    unfold fX2_correctSet_4b
    rw [hn, if_pos (nI_le (Nat.le_refl _) (by omega))]
  | succ k ih =>
    intro i fuel hi hf
    obtain ⟨f, rfl⟩ : ∃ f, fuel = f + 1 := ⟨fuel - 1, by omega⟩
    show fX2_correctSet_4b N q (fX2_correctSet_4 N q f) σ _ (nI i) = _
    unfold fX2_correctSet_4b
    rw [hn, if_neg (nI_nge (by omega) (by omega)), if_neg (nI_in (by omega) (by omega)), nI_clamp (by omega)]
    simp only [lt1, nI_1]
    rw [← ih (i + 1) f (by omega) (by omega)]
    by_cases hc : gF σ 2 i = 0
    · rw [if_pos hc, shl1 i (by omega), fa_or]
      simp only [mask, cor_t.mpr hc, if_true]
    · rw [if_neg hc]
      simp only [mask, cor_f.mpr hc, Bool.false_eq_true, if_false]
theorem X_correctSet {σ : St} {n N : Nat} (hN : 2000 ≤ N) (hn : gI σ 0 = nI n) (h10 : n ≤ 10) : fX2_correctSet N σ = some (nI (mask (cor σ) n), σ) := by
  unfold fX2_correctSet
  exact X_correctSet_loop hn h10 n 0 N (by omega) (by omega)
theorem mask_get : ∀ m, m < 1024 → ∀ k, k < 10 → (((nI m >>> (nI k &&& 31)) &&& 1 = 1) ↔ m.testBit k = true) := by decide +kernel
def ex (f : Nat → Int64) (c : Nat → Bool) (gr : Bool) : Nat → Int64 × Bool
  | 0 => (0, false)
  | k + 1 => if c k = true then (if (ex f c gr k).2 = false then f k else if gr = true then (if (ex f c gr k).1 < f k then f k else (ex f c gr k).1) else (if f k < (ex f c gr k).1 then f k else (ex f c gr k).1), true) else ex f c gr k
theorem ex_cong {f f' : Nat → Int64} {c c' : Nat → Bool} {gr : Bool} : ∀ n, (∀ p, p < n → c p = c' p) → (∀ p, p < n → c p = true → f p = f' p) → ex f c gr n = ex f' c' gr n
  | 0, _, _ => rfl
  | n + 1, h1, h2 => by
    have ih := ex_cong (gr := gr) n (fun p hp => h1 p (by omega)) (fun p hp => h2 p (by omega))
    unfold ex
    rw [ih, ← h1 n (by omega)]
    by_cases q : c n = true
    · rw [if_pos q, if_pos q, h2 n (by omega) q]
    · rw [if_neg q, if_neg q]
theorem ex_more {f : Nat → Int64} {c : Nat → Bool} {gr : Bool} {n : Nat} : ∀ j, (∀ p, n ≤ p → p < n + j → c p = false) → ex f c gr (n + j) = ex f c gr n
  | 0, _ => rfl
  | j + 1, h => by
    show (if c (n + j) = true then _ else ex f c gr (n + j)) = _
    rw [if_neg (by rw [h (n + j) (by omega) (by omega)]; decide)]
    exact ex_more j (fun p h1 h2 => h p h1 (by omega))
theorem le_nlt {x y : Int64} (h : x ≤ y) : ¬ y < x := fun q => by rw [fa_le64] at h; rw [fa_lt64] at q; omega
theorem nle_lt {x y : Int64} (h : ¬ x ≤ y) : y < x := by rw [fa_lt64]; have := mt (fa_le64 x y).mpr h; omega
theorem X_ext_loop {σ : St} {N k m s e : Nat} {gr : Int32} {q : St → Int64 → Option (Int64 × St)} (hs : (s = 0 ∧ e = 4) ∨ (s = 1 ∧ e = 5)) (hk : k ≤ 60) (hm : m < 1024) : ∀ (j i fuel : Nat), i + j = 10 → j < fuel →
    fX0_extremeEnd_26 N 3 q fuel σ (nI k) (nI m) gr e (ex (fun p => val σ k p s) (fun p => m.testBit p) (decide (¬ gr = 0)) i).1 (if (ex (fun p => val σ k p s) (fun p => m.testBit p) (decide (¬ gr = 0)) i).2 = true then 1 else 0) (nI i) = q σ (ex (fun p => val σ k p s) (fun p => m.testBit p) (decide (¬ gr = 0)) 10).1 := by
  intro j
  induction j with
  | zero =>
    intro i fuel hi hf
    obtain ⟨f, rfl⟩ : ∃ f, fuel = f + 1 := ⟨fuel - 1, by omega⟩
    have hi : i = 10 := by omega
    subst hi
    generalize (ex (fun p => val σ k p s) (fun p => m.testBit p) (decide (¬ gr = 0)) 10) = z
    show fX0_extremeEnd_26b N 3 q _ σ (nI k) (nI m) gr e _ _ (nI 10) = _
    unfold fX0_extremeEnd_26b
    rw [if_pos (cL_le 10 (Nat.le_refl _) (by omega))]
  | succ j ih =>
    intro i fuel hi hf
    obtain ⟨f, rfl⟩ : ∃ f, fuel = f + 1 := ⟨fuel - 1, by omega⟩
    have ih := ih (i + 1) f (by omega) (by omega)
    have hL : isL e = true := by rcases hs with ⟨-, rfl⟩ | ⟨-, rfl⟩ <;> decide
    have hln : ln e = 610 := by rcases hs with ⟨-, rfl⟩ | ⟨-, rfl⟩ <;> decide
    have hv : gG σ (la e) (10 * k + i) = val σ k i s := by rcases hs with ⟨rfl, rfl⟩ | ⟨rfl, rfl⟩ <;> rfl
    have hbit := mask_get m hm i (by omega)
    have e121 : ∀ (a : Int64) (fd by' : Int32), fX0_extremeEnd_121 N 3 (fX0_extremeEnd_26 N 3 q f) σ (nI k) (nI m) gr e a fd (nI i) (nI (10 * k + i)) by' = fX0_extremeEnd_26 N 3 q f σ (nI k) (nI m) gr e (if fd = 0 then val σ k i s else if by' = 0 then a else val σ k i s) 1 (nI (i + 1)) := by
      intro a fd by'
      unfold fX0_extremeEnd_121
      rw [if_neg (show ¬ isL e = false from by rw [hL]; decide), hln, if_neg (nI_in (by omega) (by omega)), nI_clamp (by omega), hv]
      simp only [lt1, nI_1]
      by_cases h1 : fd = 0
      · rw [if_pos h1, if_pos h1]
      · rw [if_neg h1, if_neg h1]
        by_cases h2 : by' = 0
        · rw [if_pos h2, if_pos h2]
        · rw [if_neg h2, if_neg h2]
    have e61 : ∀ (a : Int64) (fd : Int32), fX0_extremeEnd_61 N 3 (fX0_extremeEnd_26 N 3 q f) σ (nI k) (nI m) gr e a fd (nI i) (nI (10 * k + i)) 1 = fX0_extremeEnd_26 N 3 q f σ (nI k) (nI m) gr e (if fd = 0 then val σ k i s else if (decide (¬ gr = 0)) = true then (if a < val σ k i s then val σ k i s else a) else (if val σ k i s < a then val σ k i s else a)) 1 (nI (i + 1)) := by
      intro a fd
      unfold fX0_extremeEnd_61
      rw [if_neg z10, if_neg (nI_pos (by omega)), if_neg (show ¬ isL e = false from by rw [hL]; decide), hln, if_neg (show ¬ Int32.ofNat 610 ≤ nI (10 * k + i) from nI_ge (b := 610) (by omega) (by omega))]
      by_cases hg : gr = 0
      · rw [if_pos hg, if_neg (nI_in (by omega) (by omega)), nI_clamp (by omega), hv, e121, e121, if_pos rfl, if_neg z10]
        simp only [hg, not_true, decide_false, Bool.false_eq_true, if_false]
        by_cases h1 : a ≤ val σ k i s
        · rw [if_pos h1, if_neg (le_nlt h1)]
        · rw [if_neg h1, if_pos (nle_lt h1)]
      · rw [if_neg hg, if_neg (nI_in (by omega) (by omega)), nI_clamp (by omega), hv, e121, e121, if_pos rfl, if_neg z10]
        simp only [hg, not_false_iff, decide_true, if_true]
        by_cases h1 : val σ k i s ≤ a
        · rw [if_pos h1, if_neg (le_nlt h1)]
        · rw [if_neg h1, if_pos (nle_lt h1)]
    have e0 : ∀ (a : Int64) (fd : Int32), fX0_extremeEnd_61 N 3 (fX0_extremeEnd_26 N 3 q f) σ (nI k) (nI m) gr e a fd (nI i) (nI (10 * k + i)) 0 = fX0_extremeEnd_26 N 3 q f σ (nI k) (nI m) gr e a fd (nI (i + 1)) := by
      intro a fd
      unfold fX0_extremeEnd_61
      rw [if_pos rfl]
      simp only [lt1, nI_1]
    show fX0_extremeEnd_26b N 3 q (fX0_extremeEnd_26 N 3 q f) σ (nI k) (nI m) gr e _ _ (nI i) = _
    unfold fX0_extremeEnd_26b
    rw [if_neg (cL_nle 10 (by omega) (by omega))]
    simp only [lt1]
    rw [ix10, show k * 10 + i = 10 * k + i from by omega]
    refine Eq.trans ?_ ih
    by_cases hb : m.testBit i = true
    · rw [if_pos (hbit.mpr hb), e61]
      generalize hz : ex (fun p => val σ k p s) (fun p => m.testBit p) (decide (¬ gr = 0)) i = z
      have hz1 : ex (fun p => val σ k p s) (fun p => m.testBit p) (decide (¬ gr = 0)) (i + 1) = (if z.2 = false then val σ k i s else if (decide (¬ gr = 0)) = true then (if z.1 < val σ k i s then val σ k i s else z.1) else (if val σ k i s < z.1 then val σ k i s else z.1), true) := by
        rw [← hz]
        show (if m.testBit i = true then _ else _) = _
        rw [if_pos hb]
      rw [hz1]
      by_cases h2 : z.2 = true
      · simp only [h2, if_true, z10, if_false, Bool.true_eq_false]
      · have h3 : z.2 = false := by cases h : z.2 <;> simp_all
        simp only [h3, Bool.false_eq_true, if_false, if_true]
    · rw [if_neg (fun q => hb (hbit.mp q)), e0]
      have hz1 : ex (fun p => val σ k p s) (fun p => m.testBit p) (decide (¬ gr = 0)) (i + 1) = ex (fun p => val σ k p s) (fun p => m.testBit p) (decide (¬ gr = 0)) i := by
        show (if m.testBit i = true then _ else _) = _
        rw [if_neg hb]
      rw [hz1]
theorem X_ext {σ : St} {n N k : Nat} {hi gr : Int32} (hN : 2000 ≤ N) (h10 : n ≤ 10) (hk : k ≤ 60) : fX0_extremeEnd N σ 3 (nI k) (nI (mask (cor σ) n)) hi gr = some ((ex (fun p => val σ k p (sd hi)) (cor σ) (decide (¬ gr = 0)) n).1, σ) := by
  have hm : mask (cor σ) n < 1024 := by have h1 := mask_lt (cor σ) n; have h2 : 2 ^ n ≤ 2 ^ 10 := Nat.pow_le_pow_right (by omega) h10; omega
  have hex : ∀ s, ex (fun p => val σ k p s) (fun p => (mask (cor σ) n).testBit p) (decide (¬ gr = 0)) 10 = ex (fun p => val σ k p s) (cor σ) (decide (¬ gr = 0)) n := by
    intro s
    have h1 := ex_more (f := fun p => val σ k p s) (c := fun p => (mask (cor σ) n).testBit p) (gr := decide (¬ gr = 0)) (n := n) (10 - n) (fun p hp _ => by
      show (mask (cor σ) n).testBit p = false
      rw [mask_bit, decide_eq_false (by omega)]; rfl)
    rw [show n + (10 - n) = 10 from by omega] at h1
    rw [h1]
    exact ex_cong n (fun p hp => by
      show (mask (cor σ) n).testBit p = cor σ p
      rw [mask_bit, decide_eq_true hp]; rfl) (fun _ _ _ => rfl)
  unfold fX0_extremeEnd fX0_extremeEnd_15
  rw [if_neg (show ¬ isT 3 = false from by decide)]
  by_cases h : hi = 0
  · rw [if_pos h]
    refine Eq.trans (X_ext_loop (s := 0) (e := 4) (Or.inl ⟨rfl, rfl⟩) hk hm 10 0 N rfl (by omega)) ?_
    rw [hex, show sd hi = 0 from by unfold sd; rw [if_pos h]]
  · rw [if_neg h]
    refine Eq.trans (X_ext_loop (s := 1) (e := 5) (Or.inr ⟨rfl, rfl⟩) hk hm 10 0 N rfl (by omega)) ?_
    rw [hex, show sd hi = 1 from by unfold sd; rw [if_neg h]]
def inp (σ : St) (p s : Nat) : Int64 := if s = 0 then gG σ 0 p else gG σ 1 p
theorem val_0 (σ : St) (p s : Nat) : val σ 0 p s = inp σ p s := by unfold val inp; simp
theorem lt1_e {α γ : Type} (a : α) (f : α → Option γ) : lt1 a f = f a := Eq.trans rfl rfl
theorem bd2_e {α β γ : Type} (a : α) (b : β) (f : α → β → Option γ) : bd2 (some (a, b)) f = f a b := Eq.trans rfl rfl
theorem bd0_e {α γ : Type} (a : α) (f : α → Option γ) : bd0 (some a) f = f a := Eq.trans rfl rfl
theorem ex_in {f : Nat → Int64} {c : Nat → Bool} {gr : Bool} : ∀ n, ((ex f c gr n).2 = false ∧ (∀ p, p < n → c p = false) ∧ (ex f c gr n).1 = 0) ∨ ((ex f c gr n).2 = true ∧ (∃ p, p < n ∧ c p = true ∧ (ex f c gr n).1 = f p) ∧ ∀ p, p < n → c p = true → (gr = true → (f p).toInt ≤ (ex f c gr n).1.toInt) ∧ (gr = false → (ex f c gr n).1.toInt ≤ (f p).toInt))
  | 0 => Or.inl ⟨rfl, fun p h => absurd h (Nat.not_lt_zero p), rfl⟩
  | n + 1 => by
    have ih := ex_in (f := f) (c := c) (gr := gr) n
    by_cases q : c n = true
    · have e : ex f c gr (n + 1) = (if (ex f c gr n).2 = false then f n else if gr = true then (if (ex f c gr n).1 < f n then f n else (ex f c gr n).1) else (if f n < (ex f c gr n).1 then f n else (ex f c gr n).1), true) := by
        show (if c n = true then _ else _) = _
        rw [if_pos q]
      rw [e]
      refine Or.inr ⟨rfl, ?_⟩
      rcases ih with ⟨h1, h2, -⟩ | ⟨h1, ⟨p0, h2, h3, h4⟩, h5⟩
      · simp only [h1, if_true]
        refine ⟨⟨n, by omega, q, rfl⟩, fun p hp hc => ?_⟩
        by_cases hpn : p = n
        · subst hpn; exact ⟨fun _ => Int.le_refl _, fun _ => Int.le_refl _⟩
        · rw [h2 p (by omega)] at hc; cases hc
      · simp only [h1, Bool.true_eq_false, if_false]
        cases gr with
        | true =>
          simp only [if_true]
          by_cases hl : (ex f c true n).1 < f n
          · rw [if_pos hl]
            rw [fa_lt64] at hl
            refine ⟨⟨n, by omega, q, rfl⟩, fun p hp hc => ⟨fun _ => ?_, (fun z => by cases z)⟩⟩
            by_cases hpn : p = n
            · subst hpn; exact Int.le_refl _
            · have := (h5 p (by omega) hc).1 rfl; omega
          · rw [if_neg hl]
            have hl2 : ¬ (ex f c true n).1.toInt < (f n).toInt := fun z => hl ((fa_lt64 _ _).mpr z)
            refine ⟨⟨p0, by omega, h3, h4⟩, fun p hp hc => ⟨fun _ => ?_, (fun z => by cases z)⟩⟩
            by_cases hpn : p = n
            · subst hpn; omega
            · exact (h5 p (by omega) hc).1 rfl
        | false =>
          simp only [Bool.false_eq_true, if_false]
          by_cases hl : f n < (ex f c false n).1
          · rw [if_pos hl]
            rw [fa_lt64] at hl
            refine ⟨⟨n, by omega, q, rfl⟩, fun p hp hc => ⟨(fun z => by cases z), fun _ => ?_⟩⟩
            by_cases hpn : p = n
            · subst hpn; exact Int.le_refl _
            · have := (h5 p (by omega) hc).2 rfl; omega
          · rw [if_neg hl]
            have hl2 : ¬ (f n).toInt < (ex f c false n).1.toInt := fun z => hl ((fa_lt64 _ _).mpr z)
            refine ⟨⟨p0, by omega, h3, h4⟩, fun p hp hc => ⟨(fun z => by cases z), fun _ => ?_⟩⟩
            by_cases hpn : p = n
            · subst hpn; omega
            · exact (h5 p (by omega) hc).2 rfl
    · have e : ex f c gr (n + 1) = ex f c gr n := by
        show (if c n = true then _ else _) = _
        rw [if_neg q]
      have qf : c n = false := by cases h : c n <;> simp_all
      rw [e]
      rcases ih with ⟨h1, h2, h3⟩ | ⟨h1, ⟨p0, h2, h3, h4⟩, h5⟩
      · refine Or.inl ⟨h1, fun p hp => ?_, h3⟩
        by_cases hpn : p = n
        · subst hpn; exact qf
        · exact h2 p (by omega)
      · refine Or.inr ⟨h1, ⟨p0, by omega, h3, h4⟩, fun p hp hc => ?_⟩
        by_cases hpn : p = n
        · subst hpn; rw [qf] at hc; cases hc
        · exact h5 p (by omega) hc
def wQ (σ : St) (n k : Nat) (m : Int64) : Prop := 0 ≤ m.toInt ∧ (m.toInt = 0 ∨ ∃ s a b, s < 2 ∧ a < n ∧ b < n ∧ cor σ a = true ∧ cor σ b = true ∧ m.toInt = (val σ k a s).toInt - (val σ k b s).toInt)
def wC (σ : St) (n k : Nat) (m : Int64) : Prop := ∀ s a b, s < 2 → a < n → b < n → cor σ a = true → cor σ b = true → (val σ k a s).toInt - (val σ k b s).toInt ≤ m.toInt
theorem w_one {σ : St} {n k : Nat} {m m' : Int64} (h1 : wQ σ n k m) (h2 : wC σ n k m) (h3 : wQ σ n k m') (h4 : wC σ n k m') : m = m' := by
  rw [fa_eq64]
  have l1 : m.toInt ≤ m'.toInt := by
    rcases h1.2 with e | ⟨s, a, b, hs, ha, hb, ca, cb, e⟩
    · rw [e]; exact h3.1
    · rw [e]; exact h4 s a b hs ha hb ca cb
  have l2 : m'.toInt ≤ m.toInt := by
    rcases h3.2 with e | ⟨s, a, b, hs, ha, hb, ca, cb, e⟩
    · rw [e]; exact h1.1
    · rw [e]; exact h2 s a b hs ha hb ca cb
  omega
def vB (σ : St) (n k : Nat) : Prop := ∀ p s, p < n → s < 2 → cor σ p = true → bnd (val σ k p s)
theorem sub_b {x y : Int64} (hx : bnd x) (hy : bnd y) : (x - y).toInt = x.toInt - y.toInt := by
  obtain ⟨h1, h2⟩ := hx
  obtain ⟨h3, h4⟩ := hy
  exact fb_subL (by omega) (by omega)
theorem w_le {σ : St} {n k : Nat} {m : Int64} (B : vB σ n k) (h : wQ σ n k m) : m.toInt ≤ 14414400000 := by
  rcases h.2 with e | ⟨s, a, b, hs, ha, hb, ca, cb, e⟩
  · omega
  · have h1 := B a s ha hs ca
    have h2 := B b s hb hs cb
    unfold bnd at h1 h2
    omega
theorem J_maxL (a b : Int64) : ∃ c, fJ9_max_f86c9 a b = some c ∧ a.toInt ≤ c.toInt ∧ b.toInt ≤ c.toInt ∧ (c = a ∨ c = b) := by
  unfold fJ9_max_f86c9
  by_cases h : a < b
  · rw [if_pos h]; rw [fa_lt64] at h; exact ⟨b, rfl, by omega, by omega, Or.inr rfl⟩
  · rw [if_neg h]
    have h2 : ¬ a.toInt < b.toInt := fun z => h ((fa_lt64 _ _).mpr z)
    exact ⟨a, rfl, by omega, by omega, Or.inl rfl⟩
theorem X_width {σ : St} {n N k : Nat} (hN : 2000 ≤ N) (hn : gI σ 0 = nI n) (h10 : n ≤ 10) (hk : k ≤ 60) (B : vB σ n k) : ∃ m, fX2_widthAfter N σ (nI k) = some (m, σ) ∧ wQ σ n k m ∧ wC σ n k m := by
  unfold fX2_widthAfter
  rw [X_correctSet hN hn h10]
  simp only [bd2, lt1, bd0, X_ext hN h10 hk, sd_0, sd_1]
  rw [show decide (¬ (1 : Int32) = 0) = true from by decide, show decide (¬ True) = false from by decide]
  generalize h1 : ex (fun p => val σ k p 0) (cor σ) true n = a1
  generalize h2 : ex (fun p => val σ k p 0) (cor σ) false n = a2
  generalize h3 : ex (fun p => val σ k p 1) (cor σ) true n = a3
  generalize h4 : ex (fun p => val σ k p 1) (cor σ) false n = a4
  have i1 := ex_in (f := fun p => val σ k p 0) (c := cor σ) (gr := true) n
  have i2 := ex_in (f := fun p => val σ k p 0) (c := cor σ) (gr := false) n
  have i3 := ex_in (f := fun p => val σ k p 1) (c := cor σ) (gr := true) n
  have i4 := ex_in (f := fun p => val σ k p 1) (c := cor σ) (gr := false) n
  rw [h1] at i1; rw [h2] at i2; rw [h3] at i3; rw [h4] at i4
  obtain ⟨m, hm, m1, m2, m3⟩ := J_maxL (a1.1 - a2.1) (a3.1 - a4.1)
  refine ⟨m, by rw [hm], ?_⟩
  by_cases hx : ∃ p, p < n ∧ cor σ p = true
  · obtain ⟨p, hp, hc⟩ := hx
    have j1 := i1.resolve_left (fun z => by have := z.2.1 p hp; rw [hc] at this; cases this)
    have j2 := i2.resolve_left (fun z => by have := z.2.1 p hp; rw [hc] at this; cases this)
    have j3 := i3.resolve_left (fun z => by have := z.2.1 p hp; rw [hc] at this; cases this)
    have j4 := i4.resolve_left (fun z => by have := z.2.1 p hp; rw [hc] at this; cases this)
    obtain ⟨-, ⟨p1, u1, u2, u3⟩, u4⟩ := j1
    obtain ⟨-, ⟨p2, v1, v2, v3⟩, v4⟩ := j2
    obtain ⟨-, ⟨p3, w1, w2, w3⟩, w4⟩ := j3
    obtain ⟨-, ⟨p4, x1, x2, x3⟩, x4⟩ := j4
    have s1 : (a1.1 - a2.1).toInt = a1.1.toInt - a2.1.toInt := by
      rw [u3, v3]; exact sub_b (B p1 0 u1 (by omega) u2) (B p2 0 v1 (by omega) v2)
    have s2 : (a3.1 - a4.1).toInt = a3.1.toInt - a4.1.toInt := by
      rw [w3, x3]; exact sub_b (B p3 1 w1 (by omega) w2) (B p4 1 x1 (by omega) x2)
    have t1 := (u4 p hp hc).1 rfl
    have t2 := (v4 p hp hc).2 rfl
    have t3 := (w4 p hp hc).1 rfl
    have t4 := (x4 p hp hc).2 rfl
    refine ⟨⟨by omega, Or.inr ?_⟩, fun s a b hs ha hb ca cb => ?_⟩
    · rcases m3 with rfl | rfl
      · exact ⟨0, p1, p2, by omega, u1, v1, u2, v2, by rw [s1, u3, v3]⟩
      · exact ⟨1, p3, p4, by omega, w1, x1, w2, x2, by rw [s2, w3, x3]⟩
    · rcases (show s = 0 ∨ s = 1 by omega) with rfl | rfl
      · have y1 := (u4 a ha ca).1 rfl
        have y2 := (v4 b hb cb).2 rfl
        omega
      · have y1 := (w4 a ha ca).1 rfl
        have y2 := (x4 b hb cb).2 rfl
        omega
  · have z1 : a1.1 = 0 := by
      rcases i1 with z | ⟨-, ⟨p, hp, hc, -⟩, -⟩
      · exact z.2.2
      · exact absurd ⟨p, hp, hc⟩ hx
    have z2 : a2.1 = 0 := by
      rcases i2 with z | ⟨-, ⟨p, hp, hc, -⟩, -⟩
      · exact z.2.2
      · exact absurd ⟨p, hp, hc⟩ hx
    have z3 : a3.1 = 0 := by
      rcases i3 with z | ⟨-, ⟨p, hp, hc, -⟩, -⟩
      · exact z.2.2
      · exact absurd ⟨p, hp, hc⟩ hx
    have z4 : a4.1 = 0 := by
      rcases i4 with z | ⟨-, ⟨p, hp, hc, -⟩, -⟩
      · exact z.2.2
      · exact absurd ⟨p, hp, hc⟩ hx
    rw [z1, z2, z3, z4] at m3
    have hm0 : m = 0 := by rcases m3 with rfl | rfl <;> rfl
    subst hm0
    exact ⟨⟨by decide, Or.inl rfl⟩, fun s a b hs ha hb ca cb => absurd ⟨a, ha, ca⟩ hx⟩
theorem J_maxI (a b : Int32) : fJ9_max_7cf53 a b = some (if a < b then b else a) := by
  unfold fJ9_max_7cf53
  by_cases h : a < b
  · rw [if_pos h, if_pos h]
  · rw [if_neg h, if_neg h]
theorem bnd_g {g : Nat} {x : Int64} (hg : g ≤ 720720) (h1 : -(10000 * (g : Int)) ≤ x.toInt) (h2 : x.toInt ≤ 10000 * (g : Int)) : bnd x := by
  unfold bnd; omega
theorem nI_ne {a b : Nat} (h : a ≠ b) (ha : a < 2147483648) (hb : b < 2147483648) : ¬ nI a = nI b := fun q => h (nI_j ha hb q)
def insF (f : Nat → Int64) (v : Int64) : Nat → (Nat → Int64)
  | 0 => vp_updL f 0 v
  | p + 1 => if f p ≤ v then vp_updL f (p + 1) v else insF (vp_updL f (p + 1) (f p)) v p
theorem insF_cong {v : Int64} : ∀ (p : Nat) (f f' : Nat → Int64), (∀ j, j < p → f j = f' j) → ∀ j, j ≤ p → insF f v p j = insF f' v p j
  | 0, f, f', _, j, hj => by
    have : j = 0 := by omega
    subst this
    unfold insF
    rw [pk_uLs, pk_uLs]
  | p + 1, f, f', h, j, hj => by
    unfold insF
    rw [h p (by omega)]
    by_cases hl : f' p ≤ v
    · rw [if_pos hl, if_pos hl]
      by_cases e : j = p + 1
      · subst e; rw [pk_uLs, pk_uLs]
      · rw [pk_uLn e, pk_uLn e, h j (by omega)]
    · rw [if_neg hl, if_neg hl]
      by_cases e : j = p + 1
      · subst e
        -- the place that was filled stays
        have stay : ∀ (p' : Nat) (a b : Nat → Int64) (i : Nat), p' < i → a i = b i → insF a v p' i = insF b v p' i := by
          intro p'
          induction p' with
          | zero =>
            intro a b i hi hab
            unfold insF
            rw [pk_uLn (by omega), pk_uLn (by omega), hab]
          | succ p' ih =>
            intro a b i hi hab
            unfold insF
            by_cases h1 : a p' ≤ v <;> by_cases h2 : b p' ≤ v
            · rw [if_pos h1, if_pos h2, pk_uLn (by omega), pk_uLn (by omega), hab]
            · rw [if_pos h1, if_neg h2, pk_uLn (by omega)]
              have h3 := ih (vp_updL b (p' + 1) (b p')) a i (by omega) (by rw [pk_uLn (by omega), hab])
              have h4 : insF a v p' i = a i := by
                have aux : ∀ (p'' : Nat) (a : Nat → Int64) (i : Nat), p'' < i → insF a v p'' i = a i := by
                  intro p''
                  induction p'' with
                  | zero => intro a i hi; unfold insF; rw [pk_uLn (by omega)]
                  | succ p'' ih2 =>
                    intro a i hi
                    unfold insF
                    by_cases h : a p'' ≤ v
                    · rw [if_pos h, pk_uLn (by omega)]
                    · rw [if_neg h, ih2 _ i (by omega), pk_uLn (by omega)]
                exact aux p' a i (by omega)
              rw [h3, h4]
            · rw [if_neg h1, if_pos h2, pk_uLn (by omega)]
              have h3 := ih (vp_updL a (p' + 1) (a p')) b i (by omega) (by rw [pk_uLn (by omega), hab])
              have h4 : insF b v p' i = b i := by
                have aux : ∀ (p'' : Nat) (a : Nat → Int64) (i : Nat), p'' < i → insF a v p'' i = a i := by
                  intro p''
                  induction p'' with
                  | zero => intro a i hi; unfold insF; rw [pk_uLn (by omega)]
                  | succ p'' ih2 =>
                    intro a i hi
                    unfold insF
                    by_cases h : a p'' ≤ v
                    · rw [if_pos h, pk_uLn (by omega)]
                    · rw [if_neg h, ih2 _ i (by omega), pk_uLn (by omega)]
                exact aux p' b i (by omega)
              rw [h3, h4]
            · rw [if_neg h1, if_neg h2]
              exact ih _ _ i (by omega) (by rw [pk_uLn (by omega), pk_uLn (by omega), hab])
        exact stay p _ _ (p + 1) (by omega) (by rw [pk_uLs, pk_uLs])
      · exact insF_cong p _ _ (fun i hi => by rw [pk_uLn (by omega), pk_uLn (by omega), h i (by omega)]) j (by omega)
theorem insF_bnd {v : Int64} (hv : bnd v) : ∀ (p : Nat) (f : Nat → Int64), (∀ j, j < p → bnd (f j)) → ∀ j, j ≤ p → bnd (insF f v p j)
  | 0, f, _, j, hj => by
    have : j = 0 := by omega
    subst this
    unfold insF
    rw [pk_uLs]; exact hv
  | p + 1, f, h, j, hj => by
    unfold insF
    by_cases hl : f p ≤ v
    · rw [if_pos hl]
      by_cases e : j = p + 1
      · subst e; rw [pk_uLs]; exact hv
      · rw [pk_uLn e]; exact h j (by omega)
    · rw [if_neg hl]
      by_cases e : j = p + 1
      · subst e
        have aux : ∀ (p'' : Nat) (a : Nat → Int64) (i : Nat), p'' < i → insF a v p'' i = a i := by
          intro p''
          induction p'' with
          | zero => intro a i hi; unfold insF; rw [pk_uLn (by omega)]
          | succ p'' ih2 =>
            intro a i hi
            unfold insF
            by_cases h : a p'' ≤ v
            · rw [if_pos h, pk_uLn (by omega)]
            · rw [if_neg h, ih2 _ i (by omega), pk_uLn (by omega)]
        rw [aux p _ (p + 1) (by omega), pk_uLs]
        exact h p (by omega)
      · exact insF_bnd hv p _ (fun i hi => by rw [pk_uLn (by omega)]; exact h i (by omega)) j (by omega)
theorem sG_sG (σ : St) (a : Nat) (f f' : Nat → Int64) : sG (sG σ a f) a f' = sG σ a f' := by
  unfold sG
  refine Prod.ext rfl (Prod.ext rfl (Prod.ext rfl ?_))
  funext b
  by_cases h : b = a
  · simp [h]
  · simp [h]
theorem sG_self (σ : St) (a : Nat) : sG σ a (gG σ a) = σ := by
  unfold sG
  refine Prod.ext rfl (Prod.ext rfl (Prod.ext rfl ?_))
  funext b
  by_cases h : b = a
  · subst h; simp [gG]
  · simp [h]
theorem X_ins {σ : St} {N : Nat} {v : Int64} {q : St → Int64 → Int32 → Option St} : ∀ (p fuel : Nat) (f : Nat → Int64), p < 10 → p < fuel → ∃ (f' : Nat → Int64) (p' : Nat), p' ≤ p ∧ vp_updL f' p' v = insF f v p ∧ fX2_insertAscending_19 N q fuel (sG σ 5 f) v (nI p) = q (sG σ 5 f') v (nI p') := by
  intro p
  induction p with
  | zero =>
    intro fuel f hp hf
    obtain ⟨k, rfl⟩ : ∃ k, fuel = k + 1 := ⟨fuel - 1, by omega⟩
    refine ⟨f, 0, Nat.le_refl _, rfl, ?_⟩
    show fX2_insertAscending_19b N q _ (sG σ 5 f) v (nI 0) = _
    unfold fX2_insertAscending_19b
    rw [if_pos (cR_le 0 (Nat.le_refl _) (by omega))]
  | succ p ih =>
    intro fuel f hp hf
    obtain ⟨k, rfl⟩ : ∃ k, fuel = k + 1 := ⟨fuel - 1, by omega⟩
    have e : fX2_insertAscending_19 N q (k + 1) (sG σ 5 f) v (nI (p + 1)) = fX2_insertAscending_19b N q (fX2_insertAscending_19 N q k) (sG σ 5 f) v (nI (p + 1)) := rfl
    unfold fX2_insertAscending_19b at e
    rw [if_neg (cR_nle 0 (by omega) (by omega)), nI_pred, if_neg (nI_in (by omega) (by omega)), if_neg (nI_in (by omega) (by omega)), if_neg (nI_in (by omega) (by omega)), nI_clamp (by omega), nI_clamp (by omega), show gG (sG σ 5 f) 5 = f from rfl] at e
    by_cases hl : f p ≤ v
    · rw [if_pos hl] at e
      exact ⟨f, p + 1, Nat.le_refl _, by unfold insF; rw [if_pos hl], e⟩
    · rw [if_neg hl] at e
      simp only [lt1, sG_sG] at e
      rw [pk_m1] at e
      obtain ⟨f', p', h1, h2, h3⟩ := ih k (vp_updL f (p + 1) (f p)) (by omega) (by omega)
      exact ⟨f', p', by omega, by rw [h2, insF, if_neg hl], e.trans h3⟩
theorem X_insert {σ : St} {N m : Nat} {v : Int64} (hN : 2000 ≤ N) (f : Nat → Int64) (hm : m < 10) : fX2_insertAscending N (sG σ 5 f) v (nI m) = some (sG σ 5 (insF f v m)) := by
  unfold fX2_insertAscending
  rw [if_neg (nI_pos (by omega)), if_pos (cR_lt 10 hm (by omega))]
  obtain ⟨f', p', h1, h2, h3⟩ := X_ins (σ := σ) (N := N) (v := v) (q := fun σ32 x30 x31 => if (x31 < 0 ∨ 10 ≤ (x31).toNatClampNeg) then none else lt1 (sG σ32 5 (vp_updL (gG σ32 5) (x31).toNatClampNeg x30)) fun σ36 => some σ36) m N f hm (by omega)
  refine Eq.trans h3 ?_
  simp only [lt1, sG_sG]
  rw [if_neg (nI_in (by omega) (by omega)), nI_clamp (by omega), show gG (sG σ 5 f') 5 = f' from rfl, h2]
theorem sI_sI (σ : St) (k : Nat) (u v : Int32) : sI (sI σ k u) k v = sI σ k v := by
  unfold sI
  refine Prod.ext ?_ rfl
  funext b
  by_cases h : b = k
  · simp [h]
  · simp [h]
theorem sI_sG (σ : St) (a k : Nat) (f : Nat → Int64) (v : Int32) : sI (sG σ a f) k v = sG (sI σ k v) a f := rfl
theorem cor_got (σ : St) (f : Nat → Int64) (p : Nat) : cor (sG σ 5 f) p = cor σ p := rfl
theorem X_put {σ : St} {k p : Nat} (v0 v1 : Int64) (h : 10 * k + p < 610) : fX0_put σ 3 (nI k) (nI p) v0 v1 = some (sG (sG σ 0 (vp_updL (gG σ 0) (10 * k + p) v0)) 1 (vp_updL (gG σ 1) (10 * k + p) v1)) := by
  unfold fX0_put
  rw [if_neg (show ¬ isT 3 = false from by decide), lt1_e, ix10, show k * 10 + p = 10 * k + p from by omega, if_neg (nI_pos (by omega)), if_neg (show ¬ isL (3 + 1) = false from by decide), if_neg (show ¬ Int32.ofNat (ln (3 + 1)) ≤ nI (10 * k + p) from nI_ge (b := 610) h (by omega)), if_neg (show ¬ isL (3 + 2) = false from by decide), if_pos (show nI (10 * k + p) < Int32.ofNat (ln (3 + 2)) from nI_lt (b := 610) h (by omega)), if_neg (nI_in (N := ln (3 + 1)) h (by decide)), lt1_e, if_neg (nI_in (N := ln (3 + 2)) h (by decide)), nI_clamp (by omega), lt1_e]
  rfl
def xE (r : Nat) (σ σ' : St) : Prop := (∀ j, gI σ' j = gI σ j) ∧ (∀ j, gJ σ' j = gJ σ j) ∧ (∀ a, gF σ' a = gF σ a) ∧ (∀ a, a ≠ 0 → a ≠ 1 → a ≠ 5 → gG σ' a = gG σ a) ∧ (∀ k, k < 10 * (r + 1) → gG σ' 0 k = gG σ 0 k ∧ gG σ' 1 k = gG σ 1 k)
theorem xE.rf {r : Nat} {σ : St} : xE r σ σ := ⟨fun _ => rfl, fun _ => rfl, fun _ => rfl, fun _ _ _ _ => rfl, fun _ _ => ⟨rfl, rfl⟩⟩
theorem xE.tr {r : Nat} {a b c : St} (h : xE r a b) (k : xE r b c) : xE r a c := ⟨fun j => (k.1 j).trans (h.1 j), fun j => (k.2.1 j).trans (h.2.1 j), fun j => (k.2.2.1 j).trans (h.2.2.1 j), fun j h0 h1 h5 => (k.2.2.2.1 j h0 h1 h5).trans (h.2.2.2.1 j h0 h1 h5), fun j hj => ⟨(k.2.2.2.2 j hj).1.trans (h.2.2.2.2 j hj).1, (k.2.2.2.2 j hj).2.trans (h.2.2.2.2 j hj).2⟩⟩
theorem xE.g5 (r : Nat) (σ : St) (f : Nat → Int64) : xE r σ (sG σ 5 f) := ⟨fun _ => rfl, fun _ => rfl, fun _ => rfl, fun a _ _ h5 => by rw [gG_sG, if_neg h5], fun _ _ => ⟨rfl, rfl⟩⟩
theorem xE.put {r : Nat} (σ : St) (p : Nat) (v0 v1 : Int64) : xE r σ (sG (sG σ 0 (vp_updL (gG σ 0) (10 * (r + 1) + p) v0)) 1 (vp_updL (gG σ 1) (10 * (r + 1) + p) v1)) :=
  ⟨fun _ => rfl, fun _ => rfl, fun _ => rfl, fun a h0 h1 _ => by rw [gG_sG, if_neg h1, gG_sG, if_neg h0], fun k hk => ⟨pk_uLn (by omega), pk_uLn (by omega)⟩⟩
theorem val_keep {σ σ' : St} {r k p s : Nat} (hx : xE r σ σ') (hk : k ≤ r) (hp : p < 10) : val σ' k p s = val σ k p s := by
  unfold val
  rw [(hx.2.2.2.2 (10 * k + p) (by omega)).1, (hx.2.2.2.2 (10 * k + p) (by omega)).2]
theorem cor_keep {σ σ' : St} {r p : Nat} (hx : xE r σ σ') : cor σ' p = cor σ p := by
  unfold cor; rw [hx.2.2.1]
theorem X_restAt {σ : St} {t a : Nat} (ht : gI σ 1 = nI t) (h : t + a < 10) : fX2_restAt σ (nI a) = some (gG σ 5 (t + a), σ) := by
  unfold fX2_restAt
  rw [lt1_e, ht, nI_add, if_neg (nI_pos (by omega)), if_neg (cL_nle 10 h (by omega)), if_neg (nI_in (by omega) (by omega)), nI_clamp (by omega)]
def sumB (S : Int64) (c : Nat) : Prop := -(7207200000 * (c : Int)) ≤ S.toInt ∧ S.toInt ≤ 7207200000 * (c : Int)
theorem sumB_add {S x : Int64} {c : Nat} (h : sumB S c) (hx : bnd x) (hc : c ≤ 100) : sumB (S + x) (c + 1) := by
  unfold sumB bnd at *
  rw [fb_addL (by omega) (by omega)]
  omega
theorem sumB_2 {x y : Int64} (hx : bnd x) (hy : bnd y) : sumB (x + y) 2 := by
  unfold sumB bnd at *
  rw [fb_addL (by omega) (by omega)]
  omega
theorem xor_sign {a b : Int64} (hb : 0 ≤ b.toInt) : (0 : Int64) ≤ a ^^^ b ↔ 0 ≤ a.toInt := by
  rw [fa_le64]
  have h0 : (0 : Int64).toInt = 0 := rfl
  have h1 : (a ^^^ b).toBitVec.msb = (a.toBitVec.msb ^^ b.toBitVec.msb) := by
    rw [Int64.toBitVec_xor, BitVec.msb_xor]
  have e1 : (a ^^^ b).toBitVec.msb = decide ((a ^^^ b).toInt < 0) := BitVec.msb_eq_toInt
  have e2 : a.toBitVec.msb = decide (a.toInt < 0) := BitVec.msb_eq_toInt
  have e3 : b.toBitVec.msb = decide (b.toInt < 0) := BitVec.msb_eq_toInt
  rw [e1, e2, e3, decide_eq_false (show ¬ b.toInt < 0 by omega), Bool.xor_false] at h1
  have h2 : (a ^^^ b).toInt < 0 ↔ a.toInt < 0 := by
    constructor
    · intro h; rw [decide_eq_true h] at h1; exact of_decide_eq_true h1.symm
    · intro h; rw [decide_eq_true h] at h1; exact of_decide_eq_true h1
  rw [h0]
  omega
theorem down_bnd {a v : Int64} {c : Nat} (hc : 0 < c) (h : v.toInt = a.toInt / (c : Int)) (h1 : -(7207200000 * (c : Int)) ≤ a.toInt) (h2 : a.toInt ≤ 7207200000 * (c : Int)) : bnd v := by
  unfold bnd
  rw [h]
  exact ⟨Int.le_ediv_of_mul_le (by omega) (by omega), Int.ediv_le_of_le_mul (by omega) h2⟩
theorem sG4 (σ : St) (a b : Nat) (f f' h h' : Nat → Int64) : sG (sG (sG (sG σ a f) b f') a h) b h' = sG (sG σ a h) b h' := by
  unfold sG
  refine Prod.ext rfl (Prod.ext rfl (Prod.ext rfl ?_))
  funext c
  by_cases h1 : c = b
  · simp [h1]
  · by_cases h2 : c = a
    · simp [h2]
    · simp [h1, h2]
theorem sF_sF (σ : St) (a : Nat) (f h : Nat → Int32) : sF (sF σ a f) a h = sF σ a h := by
  unfold sF
  refine Prod.ext rfl (Prod.ext rfl (Prod.ext ?_ rfl))
  funext c
  by_cases h1 : c = a
  · simp [h1]
  · simp [h1]
theorem sF_self (σ : St) (a : Nat) : sF σ a (gF σ a) = σ := by
  unfold sF
  refine Prod.ext rfl (Prod.ext rfl (Prod.ext ?_ rfl))
  funext c
  by_cases h1 : c = a
  · subst h1; simp [gF]
  · simp [h1]
theorem gG_01 (σ : St) {a b : Nat} (f f' : Nat → Int64) (h : a ≠ b) : gG (sG (sG σ a f) b f') a = f := by
  rw [gG_sG, if_neg h, gG_sG, if_pos rfl]
theorem X_putL {σ : St} {k p : Nat} (v0 v1 : Int64) (h : 10 * k + p < 100) : fX0_put σ 6 (nI k) (nI p) v0 v1 = some (sG (sG σ 2 (vp_updL (gG σ 2) (10 * k + p) v0)) 3 (vp_updL (gG σ 3) (10 * k + p) v1)) := by
  unfold fX0_put
  rw [if_neg (show ¬ isT 6 = false from by decide), lt1_e, ix10, show k * 10 + p = 10 * k + p from by omega, if_neg (nI_pos (by omega)), if_neg (show ¬ isL (6 + 1) = false from by decide), if_neg (show ¬ Int32.ofNat (ln (6 + 1)) ≤ nI (10 * k + p) from nI_ge (b := 100) h (by omega)), if_neg (show ¬ isL (6 + 2) = false from by decide), if_pos (show nI (10 * k + p) < Int32.ofNat (ln (6 + 2)) from nI_lt (b := 100) h (by omega)), if_neg (nI_in (N := ln (6 + 1)) h (by decide)), lt1_e, if_neg (nI_in (N := ln (6 + 2)) h (by decide)), nI_clamp (by omega), lt1_e]
  rfl
def zr (f f0 : Nat → Int64) (a i : Nat) : Prop := (∀ k, k < a → f k = f0 k) ∧ ∀ k, a ≤ k → k < a + i → f k = 0
theorem zr_s {f f0 : Nat → Int64} {a i : Nat} (h : zr f f0 a i) : zr (vp_updL f (a + i) 0) f0 a (i + 1) := by
  refine ⟨fun k hk => by rw [pk_uLn (by omega)]; exact h.1 k hk, fun k h1 h2 => ?_⟩
  by_cases e : k = a + i
  · subst e; exact pk_uLs
  · rw [pk_uLn e]; exact h.2 k h1 (by omega)
theorem zr_0 (f : Nat → Int64) (a : Nat) : zr f f a 0 := ⟨fun _ _ => rfl, fun k h1 h2 => by omega⟩
theorem clr_loop {σ : St} {N b r k0 a0 a1 : Nat} (hne : a0 ≠ a1) (f0 f1 : Nat → Int64) {q24 : St → Option St} (hb : k0 = 10 * r) (hput : ∀ σ i, i < 10 → fX0_put σ b (nI r) (nI i) 0 0 = some (sG (sG σ a0 (vp_updL (gG σ a0) (10 * r + i) 0)) a1 (vp_updL (gG σ a1) (10 * r + i) 0))) : ∀ (k i fuel : Nat) (f f' : Nat → Int64), zr f f0 k0 i → zr f' f1 k0 i → i + k = 10 → k < fuel → ∃ h h', zr h f0 k0 10 ∧ zr h' f1 k0 10 ∧ fX0_clearRow_2 N b q24 fuel (sG (sG σ a0 f) a1 f') (nI r) (nI i) = q24 (sG (sG σ a0 h) a1 h') := by
  intro k
  induction k with
  | zero =>
    intro i fuel f f' z z' hi hf
    obtain ⟨a, rfl⟩ : ∃ k, fuel = k + 1 := ⟨fuel - 1, by omega⟩
    have hi : i = 10 := by omega
    subst hi
    refine ⟨f, f', z, z', ?_⟩
    show fX0_clearRow_2b N b q24 _ _ (nI r) (nI 10) = _
    unfold fX0_clearRow_2b
    rw [if_pos (cL_le 10 (Nat.le_refl _) (by omega))]
  | succ k ih =>
    intro i fuel f f' z z' hi hf
    obtain ⟨a, rfl⟩ : ∃ k, fuel = k + 1 := ⟨fuel - 1, by omega⟩
    have e : fX0_clearRow_2 N b q24 (a + 1) (sG (sG σ a0 f) a1 f') (nI r) (nI i) = fX0_clearRow_2b N b q24 (fX0_clearRow_2 N b q24 a) (sG (sG σ a0 f) a1 f') (nI r) (nI i) := rfl
    unfold fX0_clearRow_2b at e
    rw [if_neg (cL_nle 10 (by omega) (by omega)), hput _ i (by omega), bd0_e, lt1_e, nI_1, sG4, gG_01 σ f f' hne, show gG (sG (sG σ a0 f) a1 f') a1 = f' from by rw [gG_sG, if_pos rfl], ← hb] at e
    obtain ⟨h, h', g1, g2, g3⟩ := ih (i + 1) a _ _ (zr_s z) (zr_s z') (by omega) (by omega)
    exact ⟨h, h', g1, g2, e.trans g3⟩
theorem clr3 {σ : St} {N : Nat} (hN : 2000 ≤ N) : ∃ h h', (∀ p, p < 10 → h p = 0 ∧ h' p = 0) ∧ fX0_clearRow N σ 3 0 = some (sG (sG σ 0 h) 1 h') := by
  obtain ⟨h, h', g1, g2, g3⟩ := clr_loop (σ := σ) (N := N) (b := 3) (r := 0) (k0 := 0) (a0 := 0) (a1 := 1) (by decide) (gG σ 0) (gG σ 1) (q24 := fun σ15 => some σ15) rfl (fun σ i hi => X_put 0 0 (by omega)) 10 0 N (gG σ 0) (gG σ 1) (zr_0 _ _) (zr_0 _ _) (by omega) (by omega)
  refine ⟨h, h', fun p hp => ⟨g1.2 p (by omega) (by omega), g2.2 p (by omega) (by omega)⟩, ?_⟩
  unfold fX0_clearRow
  rw [if_neg (show ¬ isT 3 = false from by decide)]
  have e : sG (sG σ 0 (gG σ 0)) 1 (gG σ 1) = σ := by rw [sG_self, sG_self]
  rw [e] at g3
  exact g3
theorem clr6 {σ : St} {N r : Nat} (hN : 2000 ≤ N) (hr : r < 10) : ∃ h h', zr h (gG σ 2) (10 * r) 10 ∧ zr h' (gG σ 3) (10 * r) 10 ∧ fX0_clearRow N σ 6 (nI r) = some (sG (sG σ 2 h) 3 h') := by
  obtain ⟨h, h', g1, g2, g3⟩ := clr_loop (σ := σ) (N := N) (b := 6) (r := r) (k0 := 10 * r) (a0 := 2) (a1 := 3) (by decide) (gG σ 2) (gG σ 3) (q24 := fun σ15 => some σ15) rfl (fun σ i hi => X_putL 0 0 (by omega)) 10 0 N (gG σ 2) (gG σ 3) (zr_0 _ _) (zr_0 _ _) (by omega) (by omega)
  refine ⟨h, h', g1, g2, ?_⟩
  unfold fX0_clearRow
  rw [if_neg (show ¬ isT 6 = false from by decide)]
  have e : sG (sG σ 2 (gG σ 2)) 3 (gG σ 3) = σ := by rw [sG_self, sG_self]
  rw [e] at g3
  exact g3
def zf (f : Nat → Int32) (i : Nat) : Prop := ∀ k, k < i → f k = 0
def zg (f : Nat → Int64) (i : Nat) : Prop := ∀ k, k < i → f k = 0
theorem zf_s {f : Nat → Int32} {i : Nat} (h : zf f i) : zf (upd f i 0) (i + 1) := fun k hk => by
  by_cases e : k = i
  · subst e; exact pk_us
  · rw [pk_un e]; exact h k (by omega)
theorem zg_s {f : Nat → Int64} {i : Nat} (h : zg f i) : zg (vp_updL f i 0) (i + 1) := fun k hk => by
  by_cases e : k = i
  · subst e; exact pk_uLs
  · rw [pk_uLn e]; exact h k (by omega)
theorem zf_0 (f : Nat → Int32) : zf f 0 := fun k hk => by omega
theorem zg_0 (f : Nat → Int64) : zg f 0 := fun k hk => by omega
theorem zg_row {f h : Nat → Int64} {i : Nat} (z : zg f (10 * i)) (g : zr h f (10 * i) 10) : zg h (10 * (i + 1)) := fun k hk => by
  by_cases e : k < 10 * i
  · rw [g.1 k e]; exact z k e
  · exact g.2 k (by omega) (by omega)
theorem an_36 {σ : St} {N : Nat} (hN : 2000 ≤ N) {q66 : St → Option St} : ∀ (k i fuel : Nat) (s : Nat → Int32) (f f' : Nat → Int64), zf s i → zg f (10 * i) → zg f' (10 * i) → i + k = 10 → k < fuel → ∃ s' h h', zf s' 10 ∧ zg h 100 ∧ zg h' 100 ∧ fX2_startAnew_36 N q66 fuel (sG (sG (sF σ 2 s) 2 f) 3 f') (nI i) = q66 (sG (sG (sF σ 2 s') 2 h) 3 h') := by
  intro k
  induction k with
  | zero =>
    intro i fuel s f f' z1 z2 z3 hi hf
    obtain ⟨a, rfl⟩ : ∃ k, fuel = k + 1 := ⟨fuel - 1, by omega⟩
    have hi : i = 10 := by omega
    subst hi
    refine ⟨s, f, f', z1, z2, z3, ?_⟩
    show fX2_startAnew_36b N q66 _ _ (nI 10) = _
    unfold fX2_startAnew_36b
    rw [if_pos (cL_le 10 (Nat.le_refl _) (by omega))]
  | succ k ih =>
    intro i fuel s f f' z1 z2 z3 hi hf
    obtain ⟨a, rfl⟩ : ∃ k, fuel = k + 1 := ⟨fuel - 1, by omega⟩
    have e : fX2_startAnew_36 N q66 (a + 1) (sG (sG (sF σ 2 s) 2 f) 3 f') (nI i) = fX2_startAnew_36b N q66 (fX2_startAnew_36 N q66 a) (sG (sG (sF σ 2 s) 2 f) 3 f') (nI i) := rfl
    unfold fX2_startAnew_36b at e
    obtain ⟨h, h', g1, g2, g3⟩ := clr6 (σ := sF (sG (sG (sF σ 2 s) 2 f) 3 f') 2 (upd s i 0)) (N := N) (r := i) hN (by omega)
    rw [if_neg (cL_nle 10 (by omega) (by omega)), if_neg (nI_in (by omega) (by omega)), nI_clamp (by omega), lt1_e, show gF (sG (sG (sF σ 2 s) 2 f) 3 f') 2 = s from rfl, g3, bd0_e, lt1_e, nI_1] at e
    have en : sG (sG (sF (sG (sG (sF σ 2 s) 2 f) 3 f') 2 (upd s i 0)) 2 h) 3 h' = sG (sG (sF σ 2 (upd s i 0)) 2 h) 3 h' := by
      have e1 : sF (sG (sG (sF σ 2 s) 2 f) 3 f') 2 (upd s i 0) = sG (sG (sF (sF σ 2 s) 2 (upd s i 0)) 2 f) 3 f' := rfl
      rw [e1, sF_sF, sG4]
    rw [en] at e
    obtain ⟨s2, h2, h2', k1, k2, k3, k4⟩ := ih (i + 1) a (upd s i 0) h h' (zf_s z1) (zg_row z2 g1) (zg_row z3 g2) (by omega) (by omega)
    exact ⟨s2, h2, h2', k1, k2, k3, e.trans k4⟩
theorem an_69 {σ : St} {N : Nat} {q93 : St → Option St} : ∀ (k i fuel : Nat) (s : Nat → Int32), zf s i → i + k = 100 → k < fuel → ∃ s', zf s' 100 ∧ fX2_startAnew_69 N q93 fuel (sF σ 1 s) (nI i) = q93 (sF σ 1 s') := by
  intro k
  induction k with
  | zero =>
    intro i fuel s z hi hf
    obtain ⟨a, rfl⟩ : ∃ k, fuel = k + 1 := ⟨fuel - 1, by omega⟩
    have hi : i = 100 := by omega
    subst hi
    refine ⟨s, z, ?_⟩
    show fX2_startAnew_69b N q93 _ _ (nI 100) = _
    unfold fX2_startAnew_69b
    rw [if_pos (cL_le 100 (Nat.le_refl _) (by omega))]
  | succ k ih =>
    intro i fuel s z hi hf
    obtain ⟨a, rfl⟩ : ∃ k, fuel = k + 1 := ⟨fuel - 1, by omega⟩
    have e : fX2_startAnew_69 N q93 (a + 1) (sF σ 1 s) (nI i) = fX2_startAnew_69b N q93 (fX2_startAnew_69 N q93 a) (sF σ 1 s) (nI i) := rfl
    unfold fX2_startAnew_69b at e
    rw [if_neg (cL_nle 100 (by omega) (by omega)), if_neg (nI_in (by omega) (by omega)), nI_clamp (by omega), lt1_e, lt1_e, nI_1, sF_sF, show gF (sF σ 1 s) 1 = s from rfl] at e
    obtain ⟨s2, k1, k2⟩ := ih (i + 1) a (upd s i 0) (zf_s z) (by omega) (by omega)
    exact ⟨s2, k1, e.trans k2⟩
theorem X_startAnew {σ : St} {N : Nat} (hN : 2000 ≤ N) (a1 a2 a3 : Int32) : ∃ (h h' : Nat → Int64) (s : Nat → Int32) (f f' : Nat → Int64) (d : Nat → Int32), zg h 10 ∧ zg h' 10 ∧ zf s 10 ∧ zg f 100 ∧ zg f' 100 ∧ zf d 100 ∧ fX2_startAnew N σ a1 a2 a3 = some (sF (sG (sG (sF (sG (sG (sI (sI (sI (sI (sI σ 0 a1) 1 a2) 2 a3) 3 0) 4 0) 0 h) 1 h') 2 s) 2 f) 3 f') 1 d) := by
  unfold fX2_startAnew
  rw [lt1_e, lt1_e, lt1_e, lt1_e, lt1_e]
  generalize sI (sI (sI (sI (sI σ 0 a1) 1 a2) 2 a3) 3 0) 4 0 = σ0
  obtain ⟨h, h', c1, c2⟩ := clr3 (σ := σ0) hN
  rw [c2, bd0_e]
  generalize hs1 : sG (sG σ0 0 h) 1 h' = σ1
  obtain ⟨s, f, f', d1, d2, d3, d4⟩ := an_36 (σ := σ1) (q66 := fun σ31 => fX2_startAnew_69 N (fun σ45 => some σ45) N σ31 (0 : Int32)) hN 10 0 N (gF σ1 2) (gG σ1 2) (gG σ1 3) (zf_0 _) (zg_0 _) (zg_0 _) (by omega) (by omega)
  rw [sF_self, sG_self, sG_self] at d4
  obtain ⟨d, e1, e2⟩ := an_69 (σ := sG (sG (sF σ1 2 s) 2 f) 3 f') (N := N) (q93 := fun σ45 => some σ45) 100 0 N (gF (sG (sG (sF σ1 2 s) 2 f) 3 f') 1) (zf_0 _) (by omega) (by omega)
  rw [sF_self] at e2
  exact ⟨h, h', s, f, f', d, fun k hk => (c1 k hk).1, fun k hk => (c1 k hk).2, d1, d2, d3, e1, by rw [hs1]; exact d4.trans e2⟩
