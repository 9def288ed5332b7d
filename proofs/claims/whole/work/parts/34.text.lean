/-! texts: class and reference read alike -/
/-- what both sides hold of the text and the grid -/
def tB (σ τ : St) (len g : Nat) : Prop := gI σ 5 = nI len ∧ gI τ 4 = nI len ∧ len ≤ 40 ∧ (∀ j, j < 40 → gF τ 2 j = gF σ 0 j) ∧ (∀ j, j < 40 → vp_nar .char (gF σ 0 j) = gF σ 0 j) ∧ gI σ 2 = nI g ∧ gJ τ 0 = lN g ∧ 1 ≤ g ∧ g ≤ 720720
/-- of the class's state only the place in the text, and longs, have changed -/
def kX (σ σ' : St) : Prop := (∀ k, k ≠ 6 → gI σ' k = gI σ k) ∧ σ'.2.2 = σ.2.2
/-- of the reference's state only the place, whether it is good, and longs but the grid -/
def kM (τ τ' : St) : Prop := (∀ k, k ≠ 5 → k ≠ 6 → gI τ' k = gI τ k) ∧ gJ τ' 0 = gJ τ 0 ∧ τ'.2.2 = τ.2.2
theorem kX.rf {σ : St} : kX σ σ := ⟨fun _ _ => rfl, rfl⟩
theorem kM.rf {τ : St} : kM τ τ := ⟨fun _ _ _ => rfl, rfl, rfl⟩
theorem kX.i {σ σ' : St} (h : kX σ σ') (v : Int32) : kX σ (sI σ' 6 v) := ⟨fun k hk => by rw [gI_sI, if_neg hk]; exact h.1 k hk, h.2⟩
theorem kX.j {σ σ' : St} (h : kX σ σ') (k : Nat) (v : Int64) : kX σ (sJ σ' k v) := ⟨h.1, h.2⟩
theorem kM.i5 {τ τ' : St} (h : kM τ τ') (v : Int32) : kM τ (sI τ' 5 v) := ⟨fun k h5 h6 => by rw [gI_sI, if_neg h5]; exact h.1 k h5 h6, h.2⟩
theorem kM.i6 {τ τ' : St} (h : kM τ τ') (v : Int32) : kM τ (sI τ' 6 v) := ⟨fun k h5 h6 => by rw [gI_sI, if_neg h6]; exact h.1 k h5 h6, h.2⟩
theorem kM.j {τ τ' : St} (h : kM τ τ') {k : Nat} (hk : 0 ≠ k) (v : Int64) : kM τ (sJ τ' k v) := ⟨h.1, by rw [gJ_sJ, if_neg hk]; exact h.2.1, h.2.2⟩
theorem kX.F {σ σ' : St} (h : kX σ σ') (a : Nat) : gF σ' a = gF σ a := by unfold gF; rw [h.2]
theorem kM.F {τ τ' : St} (h : kM τ τ') (a : Nat) : gF τ' a = gF τ a := by unfold gF; rw [h.2.2]
theorem kX.G {σ σ' : St} (h : kX σ σ') (a : Nat) : gG σ' a = gG σ a := by unfold gG; rw [h.2]
theorem kM.G {τ τ' : St} (h : kM τ τ') (a : Nat) : gG τ' a = gG τ a := by unfold gG; rw [h.2.2]
/-- the character at a place, 0 behind the end -/
def ch (σ : St) (len p : Nat) : Int32 := if p < len then gF σ 0 p else 0
def dg (x : Int32) : Bool := !decide (x < 48) && !decide (57 < x)
theorem X_isDigit (x : Int32) : fX1_isDigit x = some (if dg x = true then 1 else 0) := by
  unfold fX1_isDigit dg
  by_cases h1 : x < 48
  · simp [h1]
  · by_cases h2 : 57 < x <;> simp [h1, h2]
theorem ch_out {σ : St} {len p : Nat} (h : ¬ p < len) : ch σ len p = 0 := if_neg h
theorem ch_in {σ : St} {len p : Nat} (h : p < len) : ch σ len p = gF σ 0 p := if_pos h
theorem X_cn {σ τ σ' : St} {len g p : Nat} (B : tB σ τ len g) (hk : kX σ σ') (hp : gI σ' 6 = nI p) (hl : p ≤ len) : fX1_characterNext σ' = some (ch σ len p, σ') := by
  obtain ⟨b1, b2, b3, b4, b5, b6, b7, b8, b9⟩ := B
  unfold fX1_characterNext
  rw [hp, hk.1 5 (by decide), b1, hk.F 0, if_neg (nI_pos (by omega))]
  by_cases h : p < len
  · rw [if_neg (nI_nge h (by omega)), if_neg (cL_nle 40 (by omega) (by omega)), if_neg (nI_in (by omega) (by omega)), nI_clamp (by omega), ch_in h]
    simp only [lt1]
    rw [if_neg (fun q => q (b5 p (by omega)))]
  · rw [if_pos (nI_le (by omega) (by omega)), if_neg (fun q => q (by decide)), ch_out h]
theorem M_isAt {σ τ τ' : St} {len g p : Nat} {c : Int32} (B : tB σ τ len g) (hk : kM τ τ') (hp : gI τ' 5 = nI p) (hl : p ≤ len) (hc : (0 : Int32) ≠ c) : fX3_isAt τ' c = some (if ch σ len p = c then 1 else 0, τ') := by
  obtain ⟨b1, b2, b3, b4, b5, b6, b7, b8, b9⟩ := B
  unfold fX3_isAt
  rw [hp, hk.1 4 (by decide) (by decide), b2, hk.F 2]
  by_cases h : p < len
  · rw [if_neg (nI_nge h (by omega)), if_neg (nI_in (by omega) (by omega)), nI_clamp (by omega), b4 p (by omega), ch_in h]
    by_cases h2 : gF σ 0 p = c
    · rw [if_pos h2, if_pos h2]
    · rw [if_neg h2, if_neg h2]
  · rw [if_pos (nI_le (by omega) (by omega)), ch_out h, if_neg hc]
theorem M_isDigit {σ τ τ' : St} {len g p : Nat} (B : tB σ τ len g) (hk : kM τ τ') (hp : gI τ' 5 = nI p) (hl : p ≤ len) : fX3_isDigit τ' = some (if dg (ch σ len p) = true then 1 else 0, τ') := by
  obtain ⟨b1, b2, b3, b4, b5, b6, b7, b8, b9⟩ := B
  unfold fX3_isDigit
  rw [hp, hk.1 4 (by decide) (by decide), b2, hk.F 2]
  by_cases h : p < len
  · rw [if_neg (nI_nge h (by omega)), if_neg (nI_in (by omega) (by omega)), if_neg (nI_in (by omega) (by omega)), nI_clamp (by omega), b4 p (by omega), ch_in h]
    unfold dg
    by_cases h1 : gF σ 0 p < 48
    · simp [h1]
    · by_cases h2 : 57 < gF σ 0 p <;> simp [h1, h2]
  · rw [if_pos (nI_le (by omega) (by omega)), ch_out h, if_neg (by decide)]
theorem X_skip {σ τ σ' : St} {len g p : Nat} {c : Int32} (B : tB σ τ len g) (hk : kX σ σ') (hp : gI σ' 6 = nI p) (hl : p ≤ len) : fX1_skip σ' c = if ch σ len p = c then some (1, sI σ' 6 (nI (p + 1))) else some (0, σ') := by
  unfold fX1_skip
  rw [X_cn B hk hp hl]
  simp only [bd2, lt1, hp, nI_1]
/-- a digit, as a number -/
theorem dg_n {x : Int32} (h : dg x = true) : ∃ d : Nat, 48 ≤ d ∧ d ≤ 57 ∧ x = nI d := by
  unfold dg at h
  simp only [Bool.and_eq_true, Bool.not_eq_true', decide_eq_false_iff_not] at h
  have h1 : (48 : Int32).toInt = 48 := rfl
  have h2 : (57 : Int32).toInt = 57 := rfl
  have h3 := h.1
  have h4 := h.2
  rw [fa_lt] at h3 h4
  exact of_rng (lo := 48) (hi := 57) (by omega) (by omega) (by omega)
theorem ch_dg {σ : St} {len p : Nat} (h : dg (ch σ len p) = true) : p < len := by
  by_cases q : p < len
  · exact q
  · rw [ch_out q] at h; exact absurd h (by decide)
theorem digit_val : ∀ d, d < 58 → 48 ≤ d → (nI d - (48 : Int32)).toInt64 = lN (d - 48) ∧ (nI d).toInt64 = lN d := by decide
theorem digits {σ τ : St} {len g N : Nat} (B : tB σ τ len g) {q : St → Int64 → Int32 → Option (Int64 × St)} {q' : St → Int64 → Int32 → Option (Int64 × St)} :
    ∀ (m p n w fx fm : Nat) (σ' τ' : St), n + m = 6 → p ≤ len → w < 10 ^ n → kX σ σ' → gI σ' 6 = nI p → kM τ τ' → gI τ' 5 = nI p → m < fx → m < fm →
      ∃ (p' n' w' : Nat) (σ2 τ2 : St), fX1_parseDigits_4 N q fx σ' (lN w) (nI n) = q σ2 (lN w') (nI n') ∧ fX3_readDigits_4 N q' fm τ' (lN w) (nI n) = q' τ2 (lN w') (nI n') ∧ kX σ σ2 ∧ σ2.2.1 = σ'.2.1 ∧ gI σ2 6 = nI p' ∧ kM τ τ2 ∧ τ2.2.1 = τ'.2.1 ∧ gI τ2 5 = nI p' ∧ p' ≤ len ∧ n' ≤ 6 ∧ w' < 10 ^ n' := by
  intro m
  induction m with
  | zero =>
    intro p n w fx fm σ' τ' hn hp hw hkx hpx hkm hpm hfx hfm
    obtain ⟨fx, rfl⟩ : ∃ f, fx = f + 1 := ⟨fx - 1, by omega⟩
    obtain ⟨fm, rfl⟩ : ∃ f, fm = f + 1 := ⟨fm - 1, by omega⟩
    have hn6 : n = 6 := by omega
    subst hn6
    refine ⟨p, 6, w, σ', τ', ?_, ?_, hkx, rfl, hpx, hkm, rfl, hpm, hp, Nat.le_refl _, hw⟩
    · show fX1_parseDigits_4b N q _ σ' (lN w) (nI 6) = _
      unfold fX1_parseDigits_4b
      rw [if_pos (cL_le 6 (Nat.le_refl _) (by omega))]
    · show fX3_readDigits_4b N q' _ τ' (lN w) (nI 6) = _
      unfold fX3_readDigits_4b
      rw [if_pos (cL_le 6 (Nat.le_refl _) (by omega))]
  | succ m ih =>
    intro p n w fx fm σ' τ' hn hp hw hkx hpx hkm hpm hfx hfm
    obtain ⟨fx, rfl⟩ : ∃ f, fx = f + 1 := ⟨fx - 1, by omega⟩
    obtain ⟨fm, rfl⟩ : ∃ f, fm = f + 1 := ⟨fm - 1, by omega⟩
    have e1 : fX1_parseDigits_4 N q (fx + 1) σ' (lN w) (nI n) = fX1_parseDigits_4b N q (fX1_parseDigits_4 N q fx) σ' (lN w) (nI n) := rfl
    have e2 : fX3_readDigits_4 N q' (fm + 1) τ' (lN w) (nI n) = fX3_readDigits_4b N q' (fX3_readDigits_4 N q' fm) τ' (lN w) (nI n) := rfl
    unfold fX1_parseDigits_4b at e1
    unfold fX3_readDigits_4b at e2
    rw [if_neg (cL_nle 6 (by omega) (by omega)), X_cn B hkx hpx hp] at e1
    rw [if_neg (cL_nle 6 (by omega) (by omega)), M_isDigit B hkm hpm hp] at e2
    simp only [bd2, bd0, X_isDigit] at e1 e2
    by_cases hd : dg (ch σ len p) = true
    · have hpl := ch_dg hd
      obtain ⟨d, d1, d2, d3⟩ := dg_n hd
      have hcp := ch_in (σ := σ) hpl
      have hdv := digit_val d (by omega) d1
      rw [if_pos hd, if_neg (by decide)] at e1 e2
      simp only [lt1, X_cn B hkx hpx hp] at e1
      have b3 := B.2.2.1
      rw [hpm, if_neg (nI_in (by omega) (by omega)), nI_clamp (by omega), hkm.F 2, B.2.2.2.1 p (by omega), ← hcp, d3, hdv.2] at e2
      simp only [lt1] at e2
      rw [d3, hdv.1, hpx] at e1
      have v1 : lN w * (10 : Int64) + lN (d - 48) = lN (w * 10 + (d - 48)) := by rw [show (10 : Int64) = lN 10 from rfl, lN_mul, lN_add]
      have v2 : (10 : Int64) * lN w + lN d - (48 : Int64) = lN (w * 10 + (d - 48)) := by
        rw [show (10 : Int64) = lN 10 from rfl, show (48 : Int64) = lN 48 from rfl, lN_mul, lN_add, lN_sub (by omega)]
        congr 1
        omega
      rw [v1, nI_1, nI_1] at e1
      rw [v2, nI_1, nI_1] at e2
      obtain ⟨p', n', w', σ2, τ2, h1, h2, h3, h4, h5, h6, h7, h8, h9, h10, h11⟩ := ih (p + 1) (n + 1) (w * 10 + (d - 48)) fx fm (sI σ' 6 (nI (p + 1))) (sI τ' 5 (nI (p + 1))) (by omega) (by omega) (by rw [Nat.pow_succ]; omega) (hkx.i _) rfl (hkm.i5 _) rfl (by omega) (by omega)
      exact ⟨p', n', w', σ2, τ2, e1.trans h1, e2.trans h2, h3, h4, h5, h6, h7, h8, h9, h10, h11⟩
    · rw [if_neg hd, if_pos rfl] at e1 e2
      exact ⟨p, n, w, σ', τ', e1, e2, hkx, rfl, hpx, hkm, rfl, hpm, hp, by omega, hw⟩
/-- one to six digits, or a fault at a place -/
theorem readDigits {σ τ σ' τ' : St} {len g N p : Nat} (hN : 2000 ≤ N) (B : tB σ τ len g) (hp : p ≤ len) (hkx : kX σ σ') (hpx : gI σ' 6 = nI p) (hkm : kM τ τ') (hpm : gI τ' 5 = nI p) :
    ∃ (p' : Nat) (d v : Int64) (σ2 τ2 : St), fX1_parseDigits N σ' = some (d, σ2) ∧ fX3_readDigits N τ' = some (v, τ2) ∧ kX σ σ2 ∧ σ2.2.1 = σ'.2.1 ∧ gI σ2 6 = nI p' ∧ kM τ τ2 ∧ τ2.2.1 = τ'.2.1 ∧ gI τ2 5 = nI p' ∧ p' ≤ len ∧ ((gI τ2 6 = 0 ∧ d = -1) ∨ (gI τ2 6 = 1 ∧ ∃ w : Nat, w < 1000000 ∧ d = lN w ∧ v = lN w)) := by
  unfold fX1_parseDigits fX3_readDigits
  obtain ⟨p', n', w', σ2, τ2, h1, h2, h3, h4, h5, h6, h7, h8, h9, h10, h11⟩ := digits (N := N) B (q := _) (q' := _) 6 p 0 0 N N σ' τ' rfl hp (by omega) hkx hpx hkm hpm (by omega) (by omega)
  have h1 : fX1_parseDigits_4 N _ N σ' (0 : Int64) (0 : Int32) = _ := h1
  have h2 : fX3_readDigits_4 N _ N τ' (0 : Int64) (0 : Int32) = _ := h2
  rw [h1, h2]
  have hw : w' < 1000000 := by have := Nat.pow_le_pow_right (n := 10) (by omega) h10; omega
  by_cases hn0 : n' = 0
  · subst hn0
    simp only [X_cn B h3 h5 h9, M_isDigit B h6 h8 h9, bd2, bd0, lt1]
    rw [if_pos (cR_eq 0 rfl), if_pos (cR_le 0 (Nat.le_refl _) (by omega))]
    exact ⟨p', -1, lN w', σ2, sI τ2 6 0, rfl, rfl, h3, h4, h5, h6.i6 _, h7, h8, h9, Or.inl ⟨rfl, rfl⟩⟩
  · simp only [X_cn B h3 h5 h9, M_isDigit B h6 h8 h9, bd2, bd0, lt1, X_isDigit]
    rw [if_neg (cR_ne 0 hn0 (by omega) (by omega)), if_neg (cR_nle 0 (by omega) (by omega))]
    by_cases hd : dg (ch σ len p') = true
    · rw [if_pos hd, if_neg (by decide), if_neg (by decide)]
      exact ⟨p', -1, lN w', σ2, sI τ2 6 0, rfl, rfl, h3, h4, h5, h6.i6 _, h7, h8, h9, Or.inl ⟨rfl, rfl⟩⟩
    · rw [if_neg hd, if_pos rfl, if_pos rfl]
      exact ⟨p', lN w', lN w', σ2, sI τ2 6 1, rfl, rfl, h3, h4, h5, h6.i6 _, h7, h8, h9, Or.inr ⟨rfl, w', hw, rfl, rfl⟩⟩

/-- the amount of a fraction in units -/
theorem onGrid {a b g : Nat} (ha : a < 1000000) (hb : b < 1000000) (hg : g ≤ 720720) : fX2_isOnGrid (lN a) (lN b) (lN g) = some (if 0 < b ∧ a * g % b = 0 then 1 else 0) := by
  have hag : a * g < 9223372036854775808 := Nat.lt_of_le_of_lt (Nat.mul_le_mul (Nat.le_of_lt ha) hg) (by omega)
  unfold fX2_isOnGrid
  by_cases h : b = 0
  · subst h
    rw [if_pos (dR_le 0 (Nat.le_refl _) (by omega)), if_neg (by omega)]
  · rw [if_neg (dR_nle 0 (by omega) (by omega)), if_neg (dR_ne 0 h (by omega) (by omega)), lN_mul, pk_lRem hag (by omega) (by omega)]
    have hm := Nat.mod_lt (a * g) (y := b) (by omega)
    by_cases h2 : a * g % b = 0
    · rw [if_pos (dR_eq 0 h2), if_pos ⟨by omega, h2⟩]
    · rw [if_neg (dR_ne 0 h2 (by omega) (by omega)), if_neg (fun q => h2 q.2)]
theorem inUn {a b g : Nat} (ha : a < 1000000) (hb : b < 1000000) (hg : g ≤ 720720) (h : 0 < b) : fX2_inUnits (lN a) (lN b) (lN g) = some (lN (a * g / b)) := by
  have hag : a * g < 9223372036854775808 := Nat.lt_of_le_of_lt (Nat.mul_le_mul (Nat.le_of_lt ha) hg) (by omega)
  unfold fX2_inUnits
  rw [if_neg (dR_nle 0 (by omega) (by omega)), if_neg (dR_ne 0 (by omega) (by omega) (by omega)), lN_mul, pk_lDiv hag (by omega) (by omega)]
theorem units_le {a b g : Nat} (hb : 0 < b) (h : a ≤ 1000 * b) : a * g / b ≤ 1000 * g := by
  apply Nat.div_le_of_le_mul
  calc a * g ≤ 1000 * b * g := Nat.mul_le_mul_right g h
    _ = b * (1000 * g) := by rw [Nat.mul_comm 1000 b, Nat.mul_assoc]
/-- the end of a number: class and reference -/
theorem number_end {σ τ σ' τ' : St} {len g N p p0 a b : Nat} {ng : Int32} (least : Int64) (B : tB σ τ len g) (hp : p ≤ len) (hkx : kX σ σ') (hpx : gI σ' 6 = nI p) (hkm : kM τ τ') (hpm : gI τ' 5 = nI p) (hgd : gI τ' 6 = 1) (ha : a < 1000000) (hb : b < 1000000) (hng : ng = 0 ∨ ng = 1) (hp0 : p0 ≤ len) :
    ∃ (rx : Int32) (vm : Int64) (σ2 τ2 : St), fX1_parseNumber_64 N σ' (nI g) (nI p0) ng (lN a) (lN b) = some (rx, σ2) ∧ fX3_readNumber_73 N τ' least (nI p0) ng (lN a) (lN b) = some (vm, τ2) ∧ kX σ σ2 ∧ kM τ τ2 ∧ τ2.2.1 = τ'.2.1 ∧
      ((rx = nI p0 ∧ gI τ2 6 = 0 ∧ gI τ2 5 = nI p0) ∨
       (rx = -1 ∧ σ2.2.1 = (sJ σ' 0 vm).2.1 ∧ gI σ2 6 = nI p ∧ -(1000 * (g : Int)) ≤ vm.toInt ∧ vm.toInt ≤ 1000 * (g : Int) ∧ ((least ≤ vm ∧ gI τ2 6 = 1 ∧ gI τ2 5 = nI p) ∨ (¬ least ≤ vm ∧ gI τ2 6 = 0 ∧ gI τ2 5 = nI p0)))) := by
  obtain ⟨b1, b2, b3, b4, b5, b6, b7, b8, b9⟩ := B
  have hag : a * g < 9223372036854775808 := Nat.lt_of_le_of_lt (Nat.mul_le_mul (Nat.le_of_lt ha) b9) (by omega)
  have hbad : fX3_readNumber_120 N τ' least (nI p0) ng (lN a) (lN b) = some (if ng = 0 then 0 else -0, sI (sI τ' 6 0) 5 (nI p0)) := by
    unfold fX3_readNumber_120 fX3_readNumber_121 fX3_readNumber_142 fX3_readNumber_157
    rw [if_pos rfl]
    simp only [lt1]
    have q3 : gI (sI τ' 6 0) 6 = 0 := rfl
    rcases hng with rfl | rfl
    · simp [q3]
    · simp [q3, z10]
  have fin_bad : kX σ σ' ∧ kM τ (sI (sI τ' 6 0) 5 (nI p0)) ∧ (sI (sI τ' 6 0) 5 (nI p0)).2.1 = τ'.2.1 ∧ gI (sI (sI τ' 6 0) 5 (nI p0)) 6 = 0 ∧ gI (sI (sI τ' 6 0) 5 (nI p0)) 5 = nI p0 := ⟨hkx, (hkm.i6 _).i5 _, rfl, rfl, rfl⟩
  obtain ⟨c1, c2, c3, c4, c5⟩ := fin_bad
  have eM : fX3_readNumber_73 N τ' least (nI p0) ng (lN a) (lN b) = if 0 < b ∧ a ≤ 1000 * b ∧ a * g % b = 0 then fX3_readNumber_121 N τ' least (nI p0) ng (lN a) (lN b) 1 else fX3_readNumber_120 N τ' least (nI p0) ng (lN a) (lN b) := by
    unfold fX3_readNumber_73
    rw [hgd, if_neg (by decide), hkm.2.1, b7]
    by_cases hb0 : b = 0
    · subst hb0
      rw [if_pos (dR_le 0 (Nat.le_refl _) (by omega)), if_neg (by omega)]
    · rw [if_neg (dR_nle 0 (by omega) (by omega)), show (1000 : Int64) * lN b = lN (1000 * b) from lN_mul 1000 b]
      by_cases h1 : 1000 * b < a
      · rw [if_pos ((pk_lLT (by omega) (by omega)).mpr h1), if_neg (by omega)]
      · rw [if_neg (fun q => h1 ((pk_lLT (by omega) (by omega)).mp q)), if_neg (dR_ne 0 hb0 (by omega) (by omega)), lN_mul, pk_lRem hag (by omega) (by omega)]
        have hm := Nat.mod_lt (a * g) (y := b) (by omega)
        by_cases h2 : a * g % b = 0
        · rw [if_pos (dR_eq 0 h2), if_pos ⟨by omega, by omega, h2⟩]
        · rw [if_neg (dR_ne 0 h2 (by omega) (by omega)), if_neg (fun q => h2 q.2.2)]
  have eX : fX1_parseNumber_64 N σ' (nI g) (nI p0) ng (lN a) (lN b) = if 0 < b ∧ a ≤ 1000 * b ∧ a * g % b = 0 then (if ng = 0 then some (-1, sJ σ' 0 (lN (a * g / b))) else some (-1, sJ σ' 0 (-lN (a * g / b)))) else some (nI p0, σ') := by
    unfold fX1_parseNumber_64
    rw [show (1000 : Int64) * lN b = lN (1000 * b) from lN_mul 1000 b, nI_l (by omega)]
    by_cases h1 : 1000 * b < a
    · rw [if_pos ((pk_lLT (by omega) (by omega)).mpr h1), if_neg (by omega)]
    · rw [if_neg (fun q => h1 ((pk_lLT (by omega) (by omega)).mp q)), onGrid ha hb b9]
      simp only [bd0, lt1]
      by_cases h2 : 0 < b ∧ a * g % b = 0
      · rw [if_pos h2, if_neg (by decide), inUn ha hb b9 h2.1, if_pos ⟨h2.1, by omega, h2.2⟩]
      · rw [if_neg h2, if_pos rfl, if_neg (fun q => h2 ⟨q.1, q.2.2⟩)]
  by_cases hok : 0 < b ∧ a ≤ 1000 * b ∧ a * g % b = 0
  · rw [eX, eM, if_pos hok, if_pos hok]
    have hu := units_le (g := g) hok.1 hok.2.1
    have e3 : fX3_readNumber_121 N τ' least (nI p0) ng (lN a) (lN b) 1 = if (if ng = 0 then lN (a * g / b) else -lN (a * g / b)) < least then some (if ng = 0 then lN (a * g / b) else -lN (a * g / b), sI (sI τ' 6 0) 5 (nI p0)) else some (if ng = 0 then lN (a * g / b) else -lN (a * g / b), sI (sI τ' 6 1) 5 (nI p)) := by
      unfold fX3_readNumber_121 fX3_readNumber_142 fX3_readNumber_157
      rw [if_neg (by decide), if_neg (dR_ne 0 (by omega) (by omega) (by omega)), hkm.2.1, b7, lN_mul, pk_lDiv hag (by omega) (by omega)]
      simp only [lt1]
      have q1 : gI (sI τ' 6 1) 5 = nI p := hpm
      have q2 : gI (sI τ' 6 1) 6 = 1 := rfl
      have q3 : gI (sI τ' 6 0) 6 = 0 := rfl
      rw [q1, q2, q3]
      rcases hng with rfl | rfl
      · by_cases hl : lN (a * g / b) < least <;> simp [hl, z10]
      · by_cases hl : -lN (a * g / b) < least <;> simp [hl, z10]
    rw [e3]
    have hrng : -(1000 * (g : Int)) ≤ (if ng = 0 then lN (a * g / b) else -lN (a * g / b)).toInt ∧ (if ng = 0 then lN (a * g / b) else -lN (a * g / b)).toInt ≤ 1000 * (g : Int) := by
      generalize a * g / b = u at hu ⊢
      have ht : (lN u).toInt = (u : Int) := pk_lT (by omega)
      rcases hng with rfl | rfl
      · simp only [eq_self, if_true, ht]; omega
      · simp only [z10, if_false, Int64.toInt_neg, ht]
        rw [fb_bmodL (by omega) (by omega)]; omega
    have eX2 : (if ng = 0 then some ((-1 : Int32), sJ σ' 0 (lN (a * g / b))) else some (-1, sJ σ' 0 (-lN (a * g / b)))) = some (-1, sJ σ' 0 (if ng = 0 then lN (a * g / b) else -lN (a * g / b))) := by
      rcases hng with rfl | rfl
      · rw [if_pos rfl, if_pos rfl]
      · rw [if_neg (by decide), if_neg (by decide)]
    rw [eX2]
    generalize (if ng = 0 then lN (a * g / b) else -lN (a * g / b)) = v at hrng ⊢
    by_cases hl : v < least
    · rw [if_pos hl]
      exact ⟨-1, v, sJ σ' 0 v, _, rfl, rfl, hkx.j 0 v, c2, rfl, Or.inr ⟨rfl, rfl, hpx, hrng.1, hrng.2, Or.inr ⟨fun q => by rw [fa_lt64] at hl; rw [fa_le64] at q; omega, rfl, rfl⟩⟩⟩
    · rw [if_neg hl]
      exact ⟨-1, v, sJ σ' 0 v, _, rfl, rfl, hkx.j 0 v, (hkm.i6 _).i5 _, rfl, Or.inr ⟨rfl, rfl, hpx, hrng.1, hrng.2, Or.inl ⟨by rw [fa_lt64] at hl; rw [fa_le64]; omega, rfl, rfl⟩⟩⟩
  · rw [eX, eM, if_neg hok, if_neg hok, hbad]
    exact ⟨nI p0, _, σ', _, rfl, rfl, c1, c2, c3, Or.inl ⟨rfl, c4, c5⟩⟩
