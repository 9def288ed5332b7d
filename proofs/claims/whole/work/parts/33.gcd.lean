/-! greatest common divisors: class and reference -/
theorem mod_half {b r : Nat} (h0 : 0 < r) (h : r < b) : 2 * (b % r) < b := by
  have h1 := Nat.mod_lt b h0
  have h2 := Nat.div_add_mod b r
  have h3 : 1 ≤ b / r := Nat.div_pos (by omega) h0
  have h4 : r * 1 ≤ r * (b / r) := Nat.mul_le_mul_left r h3
  omega
theorem X_gcd_loop {N : Nat} {q : Int64 → Option Int64} : ∀ (m a b s fuel : Nat), b < 2 ^ m → a < 9223372036854775808 → b < 9223372036854775808 → s + 2 * m + 2 ≤ 1000 → 2 * m + 2 ≤ fuel → fX2_greatestCommonDivisor_9 N q fuel (lN a) (lN b) (nI s) = q (lN (Nat.gcd a b)) := by
  intro m
  induction m with
  | zero =>
    intro a b s fuel hb ha _ hs hf
    obtain ⟨f, rfl⟩ : ∃ f, fuel = f + 1 := ⟨fuel - 1, by omega⟩
    have hb0 : b = 0 := by omega
    subst hb0
    show fX2_greatestCommonDivisor_9b N q _ (lN a) (lN 0) (nI s) = _
    unfold fX2_greatestCommonDivisor_9b
    rw [if_neg (cL_nle 1000 (a := s) (by omega) (by omega)), if_pos (dR_eq 0 rfl), Nat.gcd_zero_right]
  | succ m ih =>
    intro a b s fuel hb ha hb63 hs hf
    obtain ⟨f, rfl⟩ : ∃ f, fuel = f + 2 := ⟨fuel - 2, by omega⟩
    show fX2_greatestCommonDivisor_9b N q (fX2_greatestCommonDivisor_9 N q (f + 1)) (lN a) (lN b) (nI s) = _
    unfold fX2_greatestCommonDivisor_9b
    rw [if_neg (cL_nle 1000 (a := s) (by omega) (by omega))]
    by_cases h0 : b = 0
    · subst h0
      rw [if_pos (dR_eq 0 rfl), Nat.gcd_zero_right]
    · have hne : ¬ lN b = (0 : Int64) := fun h => h0 ((pk_lEQ (b := 0) (by omega) (by omega)).mp h)
      rw [if_neg hne, if_neg hne]
      simp only [lt1]
      rw [pk_lRem (by omega) (by omega) (by omega), show nI s + (1 : Int32) = nI (s + 1) from nI_1 s]
      have hr : a % b < b := Nat.mod_lt _ (by omega)
      show fX2_greatestCommonDivisor_9b N q (fX2_greatestCommonDivisor_9 N q f) (lN b) (lN (a % b)) (nI (s + 1)) = _
      unfold fX2_greatestCommonDivisor_9b
      rw [if_neg (cL_nle 1000 (a := s + 1) (by omega) (by omega))]
      have hg : Nat.gcd a b = Nat.gcd b (a % b) := by rw [Nat.gcd_comm a b, Nat.gcd_rec b a, Nat.gcd_comm]
      by_cases h1 : a % b = 0
      · rw [h1, if_pos (dR_eq 0 rfl), hg, h1, Nat.gcd_zero_right]
      · have hne1 : ¬ lN (a % b) = (0 : Int64) := fun h => h1 ((pk_lEQ (b := 0) (by omega) (by omega)).mp h)
        rw [if_neg hne1, if_neg hne1]
        simp only [lt1]
        rw [pk_lRem (by omega) (by omega) (by omega), show nI (s + 1) + (1 : Int32) = nI (s + 1 + 1) from nI_1 _]
        have h2 := mod_half (b := b) (r := a % b) (by omega) hr
        rw [ih (a % b) (b % (a % b)) (s + 1 + 1) f (by rw [Nat.pow_succ] at hb; omega) (by omega) (by omega) (by omega) (by omega), hg]
        congr 2
        rw [Nat.gcd_comm b, Nat.gcd_rec (a % b) b, Nat.gcd_comm]
theorem M_gcd_loop {N : Nat} {q : Int64 → Option Int64} : ∀ (m a b fuel : Nat), b < 2 ^ m → a < 9223372036854775808 → b < 9223372036854775808 → 2 * m + 2 ≤ fuel → fX3_common_17 N q fuel (lN a) (lN b) = q (lN (Nat.gcd a b)) := by
  intro m
  induction m with
  | zero =>
    intro a b fuel hb ha _ hf
    obtain ⟨f, rfl⟩ : ∃ f, fuel = f + 1 := ⟨fuel - 1, by omega⟩
    have hb0 : b = 0 := by omega
    subst hb0
    show fX3_common_17b N q _ (lN a) (lN 0) = _
    unfold fX3_common_17b
    rw [if_pos (dR_eq 0 rfl), Nat.gcd_zero_right]
  | succ m ih =>
    intro a b fuel hb ha hb63 hf
    obtain ⟨f, rfl⟩ : ∃ f, fuel = f + 2 := ⟨fuel - 2, by omega⟩
    show fX3_common_17b N q (fX3_common_17 N q (f + 1)) (lN a) (lN b) = _
    unfold fX3_common_17b
    by_cases h0 : b = 0
    · subst h0
      rw [if_pos (dR_eq 0 rfl), Nat.gcd_zero_right]
    · have hne : ¬ lN b = (0 : Int64) := fun h => h0 ((pk_lEQ (b := 0) (by omega) (by omega)).mp h)
      rw [if_neg hne, if_neg hne]
      simp only [lt1]
      rw [pk_lRem (by omega) (by omega) (by omega)]
      have hr : a % b < b := Nat.mod_lt _ (by omega)
      show fX3_common_17b N q (fX3_common_17 N q f) (lN b) (lN (a % b)) = _
      unfold fX3_common_17b
      have hg : Nat.gcd a b = Nat.gcd b (a % b) := by rw [Nat.gcd_comm a b, Nat.gcd_rec b a, Nat.gcd_comm]
      by_cases h1 : a % b = 0
      · rw [h1, if_pos (dR_eq 0 rfl), hg, h1, Nat.gcd_zero_right]
      · have hne1 : ¬ lN (a % b) = (0 : Int64) := fun h => h1 ((pk_lEQ (b := 0) (by omega) (by omega)).mp h)
        rw [if_neg hne1, if_neg hne1]
        simp only [lt1]
        rw [pk_lRem (by omega) (by omega) (by omega)]
        have h2 := mod_half (b := b) (r := a % b) (by omega) hr
        rw [ih (a % b) (b % (a % b)) f (by rw [Nat.pow_succ] at hb; omega) (by omega) (by omega) (by omega), hg]
        congr 2
        rw [Nat.gcd_comm b, Nat.gcd_rec (a % b) b, Nat.gcd_comm]
theorem X_gcd {N : Nat} (hN : 2000 ≤ N) {a b : Nat} (ha : a < 9223372036854775808) (hb : b < 9223372036854775808) : fX2_greatestCommonDivisor N (lN a) (lN b) = some (lN (Nat.gcd a b)) := by
  unfold fX2_greatestCommonDivisor
  exact X_gcd_loop 63 a b 0 N (by omega) ha hb (by omega) (by omega)
/-- the absolute value, as both sides take it -/
theorem abs_of {a : Int64} (h : -9223372036854775808 < a.toInt) : ∃ k : Nat, k < 9223372036854775808 ∧ (if (0 : Int64) ≤ a then a else -a) = lN k ∧ (k : Int) = a.toInt.natAbs := by
  by_cases h0 : (0 : Int64) ≤ a
  · have h1 := (fa_le64 _ _).mp h0
    have h2 : (0 : Int64).toInt = 0 := rfl
    have h3 := fb_rngL a
    refine ⟨a.toInt.toNat, by omega, ?_, by omega⟩
    rw [if_pos h0, fa_eq64, pk_lT (by omega)]
    omega
  · have h1 : ¬ (0 : Int64).toInt ≤ a.toInt := fun h => h0 ((fa_le64 _ _).mpr h)
    have h2 : (0 : Int64).toInt = 0 := rfl
    have h3 := fb_rngL a
    refine ⟨(-a.toInt).toNat, by omega, ?_, by omega⟩
    rw [if_neg h0, fa_eq64, pk_lT (by omega), Int64.toInt_neg, fb_bmodL (by omega) (by omega)]
    omega
theorem J_abs (a : Int64) : fJ9_abs_067f4 a = some (if (0 : Int64) ≤ a then a else -a) := by
  unfold fJ9_abs_067f4
  by_cases h : (0 : Int64) ≤ a
  · rw [if_pos h, if_pos h]
  · rw [if_neg h, if_neg h]
theorem M_common {N : Nat} (hN : 2000 ≤ N) {a : Int64} {k b : Nat} (hk : k < 9223372036854775808) (hb : b < 9223372036854775808) (h : (if (0 : Int64) ≤ a then a else -a) = lN k) : fX3_common N a (lN b) = some (lN (Nat.gcd k b)) := by
  unfold fX3_common
  by_cases h0 : (0 : Int64) ≤ a
  · rw [if_pos h0] at h ⊢
    rw [h]
    exact M_gcd_loop 63 k b N (by omega) hk hb (by omega)
  · rw [if_neg h0] at h ⊢
    rw [h]
    exact M_gcd_loop 63 k b N (by omega) hk hb (by omega)
/-- a fraction in lowest terms -/
def frac (a : Int64) (b : Nat) (z : Int32) : Int64 := if z = 0 then a / lN (Nat.gcd a.toInt.natAbs b) else lN b / lN (Nat.gcd a.toInt.natAbs b)
theorem X_frac {N : Nat} (hN : 2000 ≤ N) {a : Int64} {b : Nat} (ha : -9223372036854775808 < a.toInt) (hb0 : 0 < b) (hb : b < 9223372036854775808) (z : Int32) : fX2_inLowestTerms N a (lN b) z = some (frac a b z) := by
  obtain ⟨k, hk, e, hka⟩ := abs_of ha
  have hka : k = a.toInt.natAbs := by omega
  unfold fX2_inLowestTerms frac
  rw [J_abs, e]
  unfold bd0
  simp only [X_gcd hN hk hb]
  subst hka
  have hg : 0 < Nat.gcd a.toInt.natAbs b := Nat.gcd_pos_of_pos_right _ hb0
  have hg2 : Nat.gcd a.toInt.natAbs b ≤ b := Nat.gcd_le_right _ hb0
  have hne : ¬ lN (Nat.gcd a.toInt.natAbs b) = (0 : Int64) := fun h => by have := (pk_lEQ (b := 0) (by omega) (by omega)).mp h; omega
  rw [if_pos (dL_le 1 hg (by omega)), if_neg hne, if_neg hne]
  by_cases hz : z = 0
  · rw [if_pos hz, if_pos hz]
  · rw [if_neg hz, if_neg hz]
theorem M_frac {N : Nat} (hN : 2000 ≤ N) {a : Int64} {b : Nat} (ha : -9223372036854775808 < a.toInt) (hb0 : 0 < b) (hb : b < 9223372036854775808) (z : Int32) : fX3_part N a (lN b) z = some (frac a b z) := by
  obtain ⟨k, hk, e, hka⟩ := abs_of ha
  have hka : k = a.toInt.natAbs := by omega
  unfold fX3_part frac
  rw [M_common hN hk hb e]
  unfold bd0
  subst hka
  have hg : 0 < Nat.gcd a.toInt.natAbs b := Nat.gcd_pos_of_pos_right _ hb0
  have hg2 : Nat.gcd a.toInt.natAbs b ≤ b := Nat.gcd_le_right _ hb0
  have hne : ¬ lN (Nat.gcd a.toInt.natAbs b) = (0 : Int64) := fun h => by have := (pk_lEQ (b := 0) (by omega) (by omega)).mp h; omega
  simp only [if_neg hne]
  by_cases hz : z = 0
  · rw [if_pos hz, if_pos hz]
  · rw [if_neg hz, if_neg hz]
theorem frac_0 (z : Int32) : frac 0 1 z = if z = 0 then 0 else 1 := by
  unfold frac
  by_cases hz : z = 0
  · rw [if_pos hz, if_pos hz]; decide
  · rw [if_neg hz, if_neg hz]; decide
theorem frac_1 (b : Nat) (hb0 : 0 < b) (hb : b < 9223372036854775808) (z : Int32) : frac 1 b z = if z = 0 then 1 else lN b := by
  unfold frac
  have e : Nat.gcd (1 : Int64).toInt.natAbs b = 1 := by
    show Nat.gcd 1 b = 1
    exact Nat.gcd_one_left b
  rw [e]
  by_cases hz : z = 0
  · rw [if_pos hz, if_pos hz]; decide
  · rw [if_neg hz, if_neg hz, pk_lDiv (by omega) (by omega) (by omega), Nat.div_one]
