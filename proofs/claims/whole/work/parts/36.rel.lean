/-! what class and reference hold alike -/
/-- bounds of all values -/
def bnd (x : Int64) : Prop := -7207200000 ≤ x.toInt ∧ x.toInt ≤ 7207200000
/-- the parameters: nodes, trim, grid, rule, text; strategies, delays, amounts, lies, inputs -/
def RP (σ τ : St) (n t g rule len : Nat) : Prop :=
  tB σ τ len g ∧
  gI σ 0 = nI n ∧
  gI τ 0 = nI n ∧
  2 ≤ n ∧
  n ≤ 10 ∧
  gI σ 1 = nI t ∧
  gI τ 1 = nI t ∧
  t ≤ 3 ∧
  gI σ 4 = nI rule ∧
  gI τ 2 = nI rule ∧
  rule ≤ 3 ∧
  (∀ p, p < 10 → gF τ 0 p = gF σ 2 p) ∧
  (∀ p, p < 10 → ∃ s : Nat, s ≤ 5 ∧ gF σ 2 p = nI s) ∧
  (∀ k, k < 100 → gF τ 1 k = gF σ 1 k) ∧
  (∀ k, k < 100 → gF σ 1 k = -1 ∨ ∃ d : Nat, d ≤ 3 ∧ gF σ 1 k = nI d) ∧
  (∀ p, p < 10 → gF σ 1 (10 * p + p) = 0) ∧
  (∀ p, p < 10 → ¬ gF σ 2 p = 0 → gG τ 1 p = gG σ 4 p) ∧
  (∀ k, k < 100 → gG τ 2 k = gG σ 2 k ∧ gG τ 3 k = gG σ 3 k) ∧
  (∀ p, p < 10 → gG τ 0 (2 * p) = gG σ 0 p ∧ gG τ 0 (2 * p + 1) = gG σ 1 p ∧ gG τ 4 (2 * p) = gG σ 0 p ∧ gG τ 4 (2 * p + 1) = gG σ 1 p) ∧
  (∀ p, p < 10 → bnd (gG σ 0 p) ∧ bnd (gG σ 1 p))
theorem RP.B {σ τ : St} {n t g rule len : Nat} (h : RP σ τ n t g rule len) : tB σ τ len g := h.1
theorem RP.xn {σ τ : St} {n t g rule len : Nat} (h : RP σ τ n t g rule len) : gI σ 0 = nI n := h.2.1
theorem RP.mn {σ τ : St} {n t g rule len : Nat} (h : RP σ τ n t g rule len) : gI τ 0 = nI n := h.2.2.1
theorem RP.n2 {σ τ : St} {n t g rule len : Nat} (h : RP σ τ n t g rule len) : 2 ≤ n := h.2.2.2.1
theorem RP.n10 {σ τ : St} {n t g rule len : Nat} (h : RP σ τ n t g rule len) : n ≤ 10 := h.2.2.2.2.1
theorem RP.xt {σ τ : St} {n t g rule len : Nat} (h : RP σ τ n t g rule len) : gI σ 1 = nI t := h.2.2.2.2.2.1
theorem RP.mt {σ τ : St} {n t g rule len : Nat} (h : RP σ τ n t g rule len) : gI τ 1 = nI t := h.2.2.2.2.2.2.1
theorem RP.t3 {σ τ : St} {n t g rule len : Nat} (h : RP σ τ n t g rule len) : t ≤ 3 := h.2.2.2.2.2.2.2.1
theorem RP.xr {σ τ : St} {n t g rule len : Nat} (h : RP σ τ n t g rule len) : gI σ 4 = nI rule := h.2.2.2.2.2.2.2.2.1
theorem RP.mr {σ τ : St} {n t g rule len : Nat} (h : RP σ τ n t g rule len) : gI τ 2 = nI rule := h.2.2.2.2.2.2.2.2.2.1
theorem RP.r3 {σ τ : St} {n t g rule len : Nat} (h : RP σ τ n t g rule len) : rule ≤ 3 := h.2.2.2.2.2.2.2.2.2.2.1
theorem RP.ms {σ τ : St} {n t g rule len : Nat} (h : RP σ τ n t g rule len) : ∀ p, p < 10 → gF τ 0 p = gF σ 2 p := h.2.2.2.2.2.2.2.2.2.2.2.1
theorem RP.s5 {σ τ : St} {n t g rule len : Nat} (h : RP σ τ n t g rule len) : ∀ p, p < 10 → ∃ s : Nat, s ≤ 5 ∧ gF σ 2 p = nI s := h.2.2.2.2.2.2.2.2.2.2.2.2.1
theorem RP.md {σ τ : St} {n t g rule len : Nat} (h : RP σ τ n t g rule len) : ∀ k, k < 100 → gF τ 1 k = gF σ 1 k := h.2.2.2.2.2.2.2.2.2.2.2.2.2.1
theorem RP.d3 {σ τ : St} {n t g rule len : Nat} (h : RP σ τ n t g rule len) : ∀ k, k < 100 → gF σ 1 k = -1 ∨ ∃ d : Nat, d ≤ 3 ∧ gF σ 1 k = nI d := h.2.2.2.2.2.2.2.2.2.2.2.2.2.2.1
theorem RP.dd {σ τ : St} {n t g rule len : Nat} (h : RP σ τ n t g rule len) : ∀ p, p < 10 → gF σ 1 (10 * p + p) = 0 := h.2.2.2.2.2.2.2.2.2.2.2.2.2.2.2.1
theorem RP.ma {σ τ : St} {n t g rule len : Nat} (h : RP σ τ n t g rule len) : ∀ p, p < 10 → ¬ gF σ 2 p = 0 → gG τ 1 p = gG σ 4 p := h.2.2.2.2.2.2.2.2.2.2.2.2.2.2.2.2.1
theorem RP.ml {σ τ : St} {n t g rule len : Nat} (h : RP σ τ n t g rule len) : ∀ k, k < 100 → gG τ 2 k = gG σ 2 k ∧ gG τ 3 k = gG σ 3 k := h.2.2.2.2.2.2.2.2.2.2.2.2.2.2.2.2.2.1
theorem RP.mi {σ τ : St} {n t g rule len : Nat} (h : RP σ τ n t g rule len) : ∀ p, p < 10 → gG τ 0 (2 * p) = gG σ 0 p ∧ gG τ 0 (2 * p + 1) = gG σ 1 p ∧ gG τ 4 (2 * p) = gG σ 0 p ∧ gG τ 4 (2 * p + 1) = gG σ 1 p := h.2.2.2.2.2.2.2.2.2.2.2.2.2.2.2.2.2.2.1
theorem RP.bi {σ τ : St} {n t g rule len : Nat} (h : RP σ τ n t g rule len) : ∀ p, p < 10 → bnd (gG σ 0 p) ∧ bnd (gG σ 1 p) := h.2.2.2.2.2.2.2.2.2.2.2.2.2.2.2.2.2.2.2
/-- a value: after k rounds, of node p, of a side -/
def val (σ : St) (k p s : Nat) : Int64 := if s = 0 then gG σ 0 (10 * k + p) else gG σ 1 (10 * k + p)
/-- rounds, and the values of correct nodes -/
def RV (σ τ : St) (n r : Nat) : Prop := gI σ 3 = nI r ∧ gI τ 3 = nI r ∧ r ≤ 60 ∧ ∀ k p s, k ≤ r → p < n → s < 2 → gF σ 2 p = 0 → gG τ 4 (20 * k + 2 * p + s) = val σ k p s ∧ bnd (val σ k p s)
def cor (σ : St) (p : Nat) : Bool := decide (gF σ 2 p = 0)
def sd (h : Int32) : Nat := if h = 0 then 0 else 1
theorem sd_lt (h : Int32) : sd h < 2 := by unfold sd; by_cases q : h = 0 <;> simp [q]
theorem sd_0 : sd 0 = 0 := rfl
theorem sd_1 : sd 1 = 1 := rfl
theorem cor_t {σ : St} {p : Nat} : cor σ p = true ↔ gF σ 2 p = 0 := by unfold cor; exact decide_eq_true_iff
theorem cor_f {σ : St} {p : Nat} : cor σ p = false ↔ ¬ gF σ 2 p = 0 := by unfold cor; exact decide_eq_false_iff_not
theorem X_end {σ : St} {k p : Nat} (hi : Int32) (h : 10 * k + p < 610) : fX0_end σ 3 (nI k) (nI p) hi = some (val σ k p (sd hi), σ) := by
  unfold fX0_end
  rw [if_neg (show ¬ isT 3 = false from by decide)]
  simp only [lt1]
  rw [ix10, show k * 10 + p = 10 * k + p from by omega, if_neg (nI_pos (by omega)), if_neg (show ¬ isL (3 + 1) = false from by decide), if_neg (show ¬ Int32.ofNat (ln (3 + 1)) ≤ nI (10 * k + p) from nI_ge (b := 610) h (by omega)), if_neg (show ¬ isL (3 + 2) = false from by decide), if_pos (show nI (10 * k + p) < Int32.ofNat (ln (3 + 2)) from nI_lt (b := 610) h (by omega)), if_neg (nI_in (N := ln (3 + 1)) h (by decide)), if_neg (nI_in (N := ln (3 + 2)) h (by decide)), nI_clamp (by omega)]
  unfold val sd
  by_cases q : hi = 0
  · rw [if_pos q, if_pos q, if_pos rfl]; rfl
  · rw [if_neg q, if_neg q, if_neg (by decide)]; rfl
/-- a lie -/
def lie (σ : St) (p q s : Nat) : Int64 := if s = 0 then gG σ 2 (10 * p + q) else gG σ 3 (10 * p + q)
theorem X_lie {σ : St} {k p : Nat} (hi : Int32) (h : 10 * k + p < 100) : fX0_end σ 6 (nI k) (nI p) hi = some (lie σ k p (sd hi), σ) := by
  unfold fX0_end
  rw [if_neg (show ¬ isT 6 = false from by decide)]
  simp only [lt1]
  rw [ix10, show k * 10 + p = 10 * k + p from by omega, if_neg (nI_pos (by omega)), if_neg (show ¬ isL (6 + 1) = false from by decide), if_neg (show ¬ Int32.ofNat (ln (6 + 1)) ≤ nI (10 * k + p) from nI_ge (b := 100) h (by omega)), if_neg (show ¬ isL (6 + 2) = false from by decide), if_pos (show nI (10 * k + p) < Int32.ofNat (ln (6 + 2)) from nI_lt (b := 100) h (by omega)), if_neg (nI_in (N := ln (6 + 1)) h (by decide)), if_neg (nI_in (N := ln (6 + 2)) h (by decide)), nI_clamp (by omega)]
  unfold lie sd
  by_cases q : hi = 0
  · rw [if_pos q, if_pos q, if_pos rfl]; rfl
  · rw [if_neg q, if_neg q, if_neg (by decide)]; rfl
theorem M_end {τ : St} {k p s : Nat} (h : 20 * k + 2 * p + s < 1220) : fX3_end τ (nI p) (nI k) (nI s) = some (gG τ 4 (20 * k + 2 * p + s), τ) := by
  unfold fX3_end
  rw [ix20, if_neg (nI_in h (by omega)), nI_clamp (by omega)]
theorem X_isNode {σ : St} {n p : Nat} (hn : gI σ 0 = nI n) (h : p < n) (h10 : n ≤ 10) : fX2_isNode σ (nI p) = some (1, σ) := by
  unfold fX2_isNode
  rw [if_neg (nI_pos (by omega)), hn, if_neg (nI_nge h (by omega))]
theorem X_isNode_out {σ : St} {n : Nat} {a : Int32} (hn : gI σ 0 = nI n) (h : a < 0 ∨ nI n ≤ a) : fX2_isNode σ a = some (0, σ) := by
  unfold fX2_isNode
  by_cases h1 : a < 0
  · rw [if_pos h1]
  · rw [if_neg h1, hn, if_pos (h.resolve_left h1)]
theorem M_noNode {τ : St} {n p : Nat} (hn : gI τ 0 = nI n) (h : p < n) (h10 : n ≤ 10) : fX3_noNode τ (nI p) = some (0, τ) := by
  unfold fX3_noNode
  rw [hn, show (0 : Int64) = (0 : Int32).toInt64 from by decide, show nI n - 1 = nI (n - 1) from by rw [li1, pk_sub (by omega)], wiW, isW, if_pos ⟨nI_pos' (by omega), nI_le (by omega) (by omega)⟩]
  simp only [bd0]
  rw [if_neg z10]
theorem M_noNode_out {τ : St} {n : Nat} {a : Int32} (hn : gI τ 0 = nI n) (h : a < 0 ∨ nI n ≤ a) (h2 : 2 ≤ n) (h10 : n ≤ 10) : fX3_noNode τ a = some (1, τ) := by
  unfold fX3_noNode
  rw [hn, show (0 : Int64) = (0 : Int32).toInt64 from by decide, show nI n - 1 = nI (n - 1) from by rw [li1, pk_sub (by omega)], wiW, isW, if_neg ?_]
  · simp only [bd0]
    rw [if_pos trivial]
  · intro q
    rcases h with h | h
    · rw [fa_lt] at h; have := (fa_le _ _).mp q.1; omega
    · rw [fa_le, nI_toInt (by omega)] at h; have := (fa_le _ _).mp q.2; rw [nI_toInt (by omega)] at this; omega
theorem X_isCorrect {σ : St} {n p : Nat} (hn : gI σ 0 = nI n) (h : p < n) (h10 : n ≤ 10) : fX2_isCorrect σ (nI p) = some (if cor σ p = true then 1 else 0, σ) := by
  unfold fX2_isCorrect
  rw [if_neg (nI_pos (by omega)), hn, if_neg (nI_nge h (by omega)), if_neg (nI_in (by omega) (by omega)), nI_clamp (by omega)]
  by_cases q : gF σ 2 p = 0
  · rw [if_pos q, if_pos (cor_t.mpr q)]
  · rw [if_neg q, if_neg (by rw [cor_f.mpr q]; decide)]
theorem X_isCorrect_out {σ : St} {n : Nat} {a : Int32} (hn : gI σ 0 = nI n) (h : a < 0 ∨ nI n ≤ a) : fX2_isCorrect σ a = some (0, σ) := by
  unfold fX2_isCorrect
  by_cases h1 : a < 0
  · rw [if_pos h1]
  · rw [if_neg h1, hn, if_pos (h.resolve_left h1)]
theorem M_isCorrect {σ τ : St} {n t g rule len p : Nat} (R : RP σ τ n t g rule len) (h : p < n) : fX3_isCorrect τ (nI p) = some (if cor σ p = true then 1 else 0, τ) := by
  have h10 := R.n10
  unfold fX3_isCorrect
  rw [if_neg (nI_in (by omega) (by omega)), nI_clamp (by omega), R.ms p (by omega)]
  by_cases q : gF σ 2 p = 0
  · rw [if_pos q, if_pos (cor_t.mpr q)]
  · rw [if_neg q, if_neg (by rw [cor_f.mpr q]; decide)]
theorem X_delayOf {σ : St} {p q : Nat} (hp : p < 10) (hq : q < 10) : fX2_delayOf σ (nI p) (nI q) = some (gF σ 1 (10 * p + q), σ) := by
  unfold fX2_delayOf
  simp only [lt1]
  rw [ix10, show p * 10 + q = 10 * p + q from by omega, if_neg (nI_pos (by omega)), if_neg (cL_nle 100 (by omega) (by omega)), if_neg (nI_in (by omega) (by omega)), nI_clamp (by omega)]
theorem d_neg {x : Int32} (h : x = -1 ∨ ∃ d : Nat, d ≤ 3 ∧ x = nI d) : (x < 0 ↔ x = -1) := by
  rcases h with rfl | ⟨d, hd, rfl⟩
  · decide
  · constructor
    · intro q; exact absurd q (nI_pos (by omega))
    · intro q; exact absurd q (nI_m1 (by omega))
theorem M_isSent {σ τ : St} {n t g rule len p q : Nat} (R : RP σ τ n t g rule len) (hp : p < n) (hq : q < n) : fX3_isSent τ (nI p) (nI q) = some (if gF σ 1 (10 * p + q) = -1 then 0 else 1, τ) := by
  have h10 := R.n10
  unfold fX3_isSent
  by_cases h : p = q
  · subst h
    rw [if_pos rfl, R.dd p (by omega), if_neg (by decide)]
  · rw [if_neg (fun e => h (nI_j (by omega) (by omega) e)), ix01, if_neg (nI_in (by omega) (by omega)), nI_clamp (by omega), R.md _ (by omega)]
    have hd := d_neg (R.d3 (10 * p + q) (by omega))
    by_cases hx : gF σ 1 (10 * p + q) = -1
    · rw [if_pos (hd.mpr hx), if_pos hx]
    · rw [if_neg (fun e => hx (hd.mp e)), if_neg hx]
/-! the set of correct nodes -/
def mask (c : Nat → Bool) : Nat → Nat
  | 0 => 0
  | k + 1 => if c k = true then mask c k ||| 2 ^ k else mask c k
theorem mask_lt (c : Nat → Bool) : ∀ n, mask c n < 2 ^ n
  | 0 => Nat.one_pos
  | n + 1 => by
    have h := mask_lt c n
    unfold mask
    by_cases q : c n = true
    · rw [if_pos q]
      exact Nat.or_lt_two_pow (Nat.lt_of_lt_of_le h (Nat.pow_le_pow_right (by omega) (by omega))) (Nat.pow_lt_pow_right (by omega) (by omega))
    · rw [if_neg q]
      exact Nat.lt_of_lt_of_le h (Nat.pow_le_pow_right (by omega) (by omega))
theorem mask_bit (c : Nat → Bool) (k : Nat) : ∀ n, (mask c n).testBit k = (decide (k < n) && c k)
  | 0 => by simp [mask]
  | n + 1 => by
    have h := mask_bit c k n
    unfold mask
    by_cases q : c n = true
    · rw [if_pos q, fb_bit_set, h]
      by_cases e : k = n
      · subst e; simp [q]
      · have : decide (k < n + 1) = decide (k < n) := by
          by_cases z : k < n
          · simp [z]; omega
          · simp [z]; omega
        simp [e, this]
    · rw [if_neg q, h]
      by_cases e : k = n
      · subst e; simp [q]
      · have : decide (k < n + 1) = decide (k < n) := by
          by_cases z : k < n
          · simp [z]; omega
          · simp [z]; omega
        rw [this]
theorem shl1 : ∀ p, p < 10 → (1 : Int32) <<< (nI p &&& 31) = nI (2 ^ p) := by decide
theorem X_correctSet_loop {σ : St} {n N : Nat} {q : St → Int32 → Option (Int32 × St)} (hn : gI σ 0 = nI n) (h10 : n ≤ 10) : ∀ (k i fuel : Nat), i + k = n → k < fuel → fX2_correctSet_4 N q fuel σ (nI (mask (cor σ) i)) (nI i) = q σ (nI (mask (cor σ) n)) := by
  intro k
  induction k with
  | zero =>
    intro i fuel hi hf
    obtain ⟨f, rfl⟩ : ∃ f, fuel = f + 1 := ⟨fuel - 1, by omega⟩
    have hi : i = n := by omega
    subst hi
    show fX2_correctSet_4b N q _ σ _ (nI i) = _
    unfold fX2_correctSet_4b
    rw [hn, if_pos (nI_le (Nat.le_refl _) (by omega))]
  | succ k ih =>
    intro i fuel hi hf
    obtain ⟨f, rfl⟩ : ∃ f, fuel = f + 1 := ⟨fuel - 1, by omega⟩
    show fX2_correctSet_4b N q (fX2_correctSet_4 N q f) σ _ (nI i) = _
    unfold fX2_correctSet_4b
    rw [hn, if_neg (nI_nge (by omega) (by omega)), if_neg (nI_in (by omega) (by omega)), nI_clamp (by omega)]
    simp only [lt1, nI_1]
    rw [← ih (i + 1) f (by omega) (by omega)]
    by_cases hc : gF σ 2 i = 0
    · rw [if_pos hc, shl1 i (by omega), fa_or]
      simp only [mask, cor_t.mpr hc, if_true]
    · rw [if_neg hc]
      simp only [mask, cor_f.mpr hc, Bool.false_eq_true, if_false]
theorem X_correctSet {σ : St} {n N : Nat} (hN : 2000 ≤ N) (hn : gI σ 0 = nI n) (h10 : n ≤ 10) : fX2_correctSet N σ = some (nI (mask (cor σ) n), σ) := by
  unfold fX2_correctSet
  exact X_correctSet_loop hn h10 n 0 N (by omega) (by omega)
theorem mask_get : ∀ m, m < 1024 → ∀ k, k < 10 → (((nI m >>> (nI k &&& 31)) &&& 1 = 1) ↔ m.testBit k = true) := by decide +kernel
/-! the least and the greatest -/
def ex (f : Nat → Int64) (c : Nat → Bool) (gr : Bool) : Nat → Int64 × Bool
  | 0 => (0, false)
  | k + 1 => if c k = true then (if (ex f c gr k).2 = false then f k else if gr = true then (if (ex f c gr k).1 < f k then f k else (ex f c gr k).1) else (if f k < (ex f c gr k).1 then f k else (ex f c gr k).1), true) else ex f c gr k
theorem ex_cong {f f' : Nat → Int64} {c c' : Nat → Bool} {gr : Bool} : ∀ n, (∀ p, p < n → c p = c' p) → (∀ p, p < n → c p = true → f p = f' p) → ex f c gr n = ex f' c' gr n
  | 0, _, _ => rfl
  | n + 1, h1, h2 => by
    have ih := ex_cong (gr := gr) n (fun p hp => h1 p (by omega)) (fun p hp => h2 p (by omega))
    unfold ex
    rw [ih, ← h1 n (by omega)]
    by_cases q : c n = true
    · rw [if_pos q, if_pos q, h2 n (by omega) q]
    · rw [if_neg q, if_neg q]
