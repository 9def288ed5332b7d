/-! what is asked: counts -/
theorem nI_a0 (n : Nat) : nI n + (0 : Int32) = nI n := by rw [li0, nI_add]; rfl
theorem bits10 : ∀ m, m < 1024 → fJ6_bitCount_0f7a4 (nI m) = some (nI (fb_ct (fun k => m.testBit k) 10)) := by decide +kernel
theorem mask_ct {c : Nat → Bool} {n : Nat} (h10 : n ≤ 10) : fb_ct (fun k => (mask c n).testBit k) 10 = fb_ct c n := by
  have h1 : fb_ct (fun k => (mask c n).testBit k) (n + (10 - n)) = fb_ct (fun k => (mask c n).testBit k) n + fb_ct (fun k => (mask c n).testBit (n + k)) (10 - n) := fb_ct_split (fun k => (mask c n).testBit k) n (10 - n)
  rw [show n + (10 - n) = 10 from by omega] at h1
  have h2 : fb_ct (fun k => (mask c n).testBit k) n = fb_ct c n := fb_ct_cong (fun k hk => by rw [mask_bit, decide_eq_true hk]; rfl)
  have h3 : fb_ct (fun k => (mask c n).testBit (n + k)) (10 - n) = 0 := fb_ct_zero.mpr (fun k hk => by
    show (mask c n).testBit (n + k) = false
    rw [mask_bit, decide_eq_false (by omega)]; rfl)
  omega
theorem mask_1024 (c : Nat → Bool) {n : Nat} (h10 : n ≤ 10) : mask c n < 1024 := by
  have h1 := mask_lt c n
  have h2 : 2 ^ n ≤ 2 ^ 10 := Nat.pow_le_pow_right (by omega) h10
  omega
def fy (σ : St) (n : Nat) : Nat := fb_ct (fun p => !cor σ p) n
theorem fy_le (σ : St) (n : Nat) : fy σ n ≤ n := fb_ct_le _ n
theorem X_faulty {σ : St} {n N : Nat} (hN : 2000 ≤ N) (hn : gI σ 0 = nI n) (h10 : n ≤ 10) : fX2_faultyNodes N σ = some (nI (fy σ n), σ) := by
  unfold fX2_faultyNodes fy
  have h := fb_ct_not (cor σ) n
  have h2 := fb_ct_le (cor σ) n
  rw [X_correctSet hN hn h10, bd2_e, bits10 _ (mask_1024 _ h10), bd0_e, mask_ct h10, hn, pk_sub h2, show n - fb_ct (cor σ) n = fb_ct (fun k => !cor σ k) n from by omega]
def lkT (σ : St) (mx p q : Nat) : Bool := decide (p ≠ q ∧ (0 : Int32) ≤ gF σ 1 (10 * p + q) ∧ gF σ 1 (10 * p + q) ≤ nI mx)
def lk (σ : St) (mx n p : Nat) : Nat := fb_sm (fun p => fb_ct (lkT σ mx p) n) p
theorem X_links_in {σ : St} {n N mx p : Nat} {q54 : St → Int32 → Int32 → Int32 → Option (Int32 × St)} (hn : gI σ 0 = nI n) (h10 : n ≤ 10) (hp : p < n) (s : Nat) : ∀ (k i fuel : Nat), i + k = n → k < fuel → fX2_linksWithDelay_15 N q54 fuel σ (nI mx) (nI (s + fb_ct (lkT σ mx p) i)) (nI p) (nI i) = q54 σ (nI mx) (nI (s + fb_ct (lkT σ mx p) n)) (nI p) := by
  intro k
  induction k with
  | zero =>
    intro i fuel hi hf
    obtain ⟨a, rfl⟩ : ∃ k, fuel = k + 1 := ⟨fuel - 1, by omega⟩
    have hi : i = n := by omega
    subst hi
    show fX2_linksWithDelay_15b N q54 _ σ _ _ _ (nI i) = _
    unfold fX2_linksWithDelay_15b
    rw [hn, if_pos (nI_le (Nat.le_refl _) (by omega))]
  | succ k ih =>
    intro i fuel hi hf
    obtain ⟨a, rfl⟩ : ∃ k, fuel = k + 1 := ⟨fuel - 1, by omega⟩
    rw [← ih (i + 1) a (by omega) (by omega)]
    show fX2_linksWithDelay_15b N q54 (fX2_linksWithDelay_15 N q54 a) σ _ _ _ (nI i) = _
    unfold fX2_linksWithDelay_15b
    rw [hn, if_neg (nI_nge (by omega) (by omega))]
    by_cases hpi : p = i
    · subst hpi
      rw [if_pos rfl, lt1_e, nI_1, ct_f (p := lkT σ mx p) (n := p) (by unfold lkT; simp)]
    · rw [if_neg (nI_ne hpi (by omega) (by omega)), X_delayOf (by omega) (by omega), bd2_e, isW, bd0_e, lt1_e, lt1_e, lt1_e, nI_1, nI_1]
      by_cases h : (0 : Int32) ≤ gF σ 1 (10 * p + i) ∧ gF σ 1 (10 * p + i) ≤ nI mx
      · rw [if_pos h, if_neg z10, ct_t (p := lkT σ mx p) (n := i) (decide_eq_true ⟨hpi, h⟩), Nat.add_assoc]
      · rw [if_neg h, if_pos rfl, ct_f (p := lkT σ mx p) (n := i) (by unfold lkT; exact fun z => h (of_decide_eq_true z).2)]
theorem X_links_out {σ : St} {n N mx : Nat} {q60 : St → Int32 → Option (Int32 × St)} (hN : 2000 ≤ N) (hn : gI σ 0 = nI n) (h10 : n ≤ 10) : ∀ (k i fuel : Nat), i + k = n → k < fuel → fX2_linksWithDelay_4 N q60 fuel σ (nI mx) (nI (lk σ mx n i)) (nI i) = q60 σ (nI (lk σ mx n n)) := by
  intro k
  induction k with
  | zero =>
    intro i fuel hi hf
    obtain ⟨a, rfl⟩ : ∃ k, fuel = k + 1 := ⟨fuel - 1, by omega⟩
    have hi : i = n := by omega
    subst hi
    show fX2_linksWithDelay_4b N q60 _ σ _ _ (nI i) = _
    unfold fX2_linksWithDelay_4b
    rw [hn, if_pos (nI_le (Nat.le_refl _) (by omega))]
  | succ k ih =>
    intro i fuel hi hf
    obtain ⟨a, rfl⟩ : ∃ k, fuel = k + 1 := ⟨fuel - 1, by omega⟩
    rw [← ih (i + 1) a (by omega) (by omega)]
    show fX2_linksWithDelay_4b N q60 (fX2_linksWithDelay_4 N q60 a) σ _ _ (nI i) = _
    unfold fX2_linksWithDelay_4b
    rw [hn, if_neg (nI_nge (by omega) (by omega))]
    refine Eq.trans (X_links_in (q54 := fun σ42 x39 x40 x41 => lt1 (x41 + (1 : Int32)) fun x44 => fX2_linksWithDelay_4 N q60 a σ42 x39 x40 x44) hn h10 (show i < n by omega) (lk σ mx n i) n 0 N (by omega) (by omega)) ?_
    rw [lt1_e, nI_1]
    rfl
theorem X_links {σ : St} {n N mx : Nat} (hN : 2000 ≤ N) (hn : gI σ 0 = nI n) (h10 : n ≤ 10) : fX2_linksWithDelay N σ (nI mx) = some (nI (lk σ mx n n), σ) := by
  unfold fX2_linksWithDelay
  exact X_links_out (q60 := fun σ47 x46 => some (x46, σ47)) hN hn h10 n 0 N (by omega) (by omega)
def sm (σ : St) (r p q : Nat) : Bool := decide (val σ r p 0 = val σ r q 0 ∧ val σ r p 1 = val σ r q 1)
theorem sm_comm (σ : St) (r p q : Nat) : sm σ r p q = sm σ r q p := by
  unfold sm
  have e : (val σ r p 0 = val σ r q 0 ∧ val σ r p 1 = val σ r q 1) ↔ (val σ r q 0 = val σ r p 0 ∧ val σ r q 1 = val σ r p 1) := ⟨fun h => ⟨h.1.symm, h.2.symm⟩, fun h => ⟨h.1.symm, h.2.symm⟩⟩
  exact decide_eq_decide.mpr e
theorem X_same {σ : St} {n r p q : Nat} (hn : gI σ 0 = nI n) (hr : gI σ 3 = nI r) (h60 : r ≤ 60) (h10 : n ≤ 10) (hp : p < n) (hq : q < n) : fX2_haveSameValue σ (nI p) (nI q) = some (if (cor σ p && cor σ q && sm σ r p q) = true then 1 else 0, σ) := by
  unfold fX2_haveSameValue
  rw [X_isCorrect hn hp h10, bd2_e, X_isCorrect hn hq h10, bd2_e, hr]
  by_cases h1 : cor σ p = true
  · rw [if_pos h1, if_neg z10]
    by_cases h2 : cor σ q = true
    · rw [if_pos h2, if_neg z10, X_end _ (by omega), bd2_e, hr, X_end _ (by omega), bd2_e, sd_0, h1, h2, hr, X_end _ (by omega), bd2_e, hr, X_end _ (by omega), bd2_e, sd_1]
      by_cases h3 : val σ r p 0 = val σ r q 0
      · rw [if_pos h3]
        by_cases h4 : val σ r p 1 = val σ r q 1
        · rw [if_pos h4, if_pos (by unfold sm; rw [decide_eq_true ⟨h3, h4⟩]; rfl)]
        · rw [if_neg h4, if_neg (by unfold sm; rw [decide_eq_false (fun z => h4 z.2)]; decide)]
      · rw [if_neg h3, if_neg (by unfold sm; rw [decide_eq_false (fun z => h3 z.1)]; decide)]
    · rw [if_neg h2, if_pos rfl, if_neg (by simp [h2])]
  · rw [if_neg h1, if_pos rfl, if_neg (by simp [h1])]
def hd (σ : St) (r p b : Nat) : Nat := fb_ct (fun q => cor σ q && sm σ r p q) b
theorem hd_le (σ : St) (r p b : Nat) : hd σ r p b ≤ b := fb_ct_le _ b
theorem X_first_loop {σ : St} {n N r p : Nat} (hn : gI σ 0 = nI n) (hr : gI σ 3 = nI r) (h60 : r ≤ 60) (h10 : n ≤ 10) (hp : p < n) (cp : cor σ p = true) : ∀ (k i fuel : Nat), i + k = p → k < fuel → hd σ r p i = 0 → fX2_isFirstHolder_2 N (fun σ18 => some ((1 : Int32), σ18)) fuel σ (nI p) (nI i) = some (if hd σ r p p = 0 then 1 else 0, σ) := by
  intro k
  induction k with
  | zero =>
    intro i fuel hi hf h0
    obtain ⟨a, rfl⟩ : ∃ k, fuel = k + 1 := ⟨fuel - 1, by omega⟩
    have hi : i = p := by omega
    subst hi
    show fX2_isFirstHolder_2b N _ _ σ (nI i) (nI i) = _
    unfold fX2_isFirstHolder_2b
    rw [if_pos (nI_le (Nat.le_refl _) (by omega)), if_pos h0]
  | succ k ih =>
    intro i fuel hi hf h0
    obtain ⟨a, rfl⟩ : ∃ k, fuel = k + 1 := ⟨fuel - 1, by omega⟩
    show fX2_isFirstHolder_2b N _ (fX2_isFirstHolder_2 N _ a) σ (nI p) (nI i) = _
    unfold fX2_isFirstHolder_2b
    rw [if_neg (nI_nge (by omega) (by omega)), X_same hn hr h60 h10 (by omega) hp, bd2_e, lt1_e, nI_1, cp, Bool.and_true, sm_comm σ r i p]
    by_cases h : (cor σ i && sm σ r p i) = true
    · rw [if_pos h, if_neg z10]
      have e1 : hd σ r p (i + 1) = hd σ r p i + 1 := ct_t (p := fun q => cor σ q && sm σ r p q) h
      have e2 : hd σ r p (i + 1) ≤ hd σ r p p := fb_ct_mono _ (by omega)
      rw [if_neg (by omega)]
    · rw [if_neg h, if_pos rfl]
      exact ih (i + 1) a (by omega) (by omega) (by rw [show hd σ r p (i + 1) = hd σ r p i from ct_f (p := fun q => cor σ q && sm σ r p q) h]; exact h0)
theorem X_first {σ : St} {n N r p : Nat} (hN : 2000 ≤ N) (hn : gI σ 0 = nI n) (hr : gI σ 3 = nI r) (h60 : r ≤ 60) (h10 : n ≤ 10) (hp : p < n) (cp : cor σ p = true) : fX2_isFirstHolder N σ (nI p) = some (if hd σ r p p = 0 then 1 else 0, σ) := by
  unfold fX2_isFirstHolder
  exact X_first_loop hn hr h60 h10 hp cp p 0 N (by omega) (by omega) rfl
def dv (σ : St) (r n : Nat) : Nat := fb_ct (fun p => cor σ p && decide (hd σ r p p = 0)) n
theorem X_diff_loop {σ : St} {n N r : Nat} {q37 : St → Int32 → Option (Int32 × St)} (hN : 2000 ≤ N) (hn : gI σ 0 = nI n) (hr : gI σ 3 = nI r) (h60 : r ≤ 60) (h10 : n ≤ 10) : ∀ (k i fuel : Nat), i + k = n → k < fuel → fX2_differentValues_4 N q37 fuel σ (nI (dv σ r i)) (nI i) = q37 σ (nI (dv σ r n)) := by
  intro k
  induction k with
  | zero =>
    intro i fuel hi hf
    obtain ⟨a, rfl⟩ : ∃ k, fuel = k + 1 := ⟨fuel - 1, by omega⟩
    have hi : i = n := by omega
    subst hi
    show fX2_differentValues_4b N q37 _ σ _ (nI i) = _
    unfold fX2_differentValues_4b
    rw [hn, if_pos (nI_le (Nat.le_refl _) (by omega))]
  | succ k ih =>
    intro i fuel hi hf
    obtain ⟨a, rfl⟩ : ∃ k, fuel = k + 1 := ⟨fuel - 1, by omega⟩
    rw [← ih (i + 1) a (by omega) (by omega)]
    show fX2_differentValues_4b N q37 (fX2_differentValues_4 N q37 a) σ _ (nI i) = _
    unfold fX2_differentValues_4b
    rw [hn, if_neg (nI_nge (by omega) (by omega)), X_isCorrect hn (by omega) h10, bd2_e, lt1_e, nI_1]
    by_cases hc : cor σ i = true
    · rw [if_pos hc, if_neg z10, X_first hN hn hr h60 h10 (by omega) hc, bd2_e, lt1_e, lt1_e, lt1_e, nI_1]
      by_cases h0 : hd σ r i i = 0
      · rw [if_pos h0, if_neg z10, show dv σ r (i + 1) = dv σ r i + 1 from ct_t (p := fun p => cor σ p && decide (hd σ r p p = 0)) (by simp [hc, h0])]
      · rw [if_neg h0, if_pos rfl, show dv σ r (i + 1) = dv σ r i from ct_f (p := fun p => cor σ p && decide (hd σ r p p = 0)) (by simp [h0])]
    · rw [if_neg hc, if_pos rfl, show dv σ r (i + 1) = dv σ r i from ct_f (p := fun p => cor σ p && decide (hd σ r p p = 0)) (by simp [hc])]
theorem X_diff {σ : St} {n N r : Nat} (hN : 2000 ≤ N) (hn : gI σ 0 = nI n) (hr : gI σ 3 = nI r) (h60 : r ≤ 60) (h10 : n ≤ 10) : fX2_differentValues N σ = some (nI (dv σ r n), σ) := by
  unfold fX2_differentValues
  exact X_diff_loop (q37 := fun σ30 x29 => some (x29, σ30)) hN hn hr h60 h10 n 0 N (by omega) (by omega)
theorem mask0 {σ : St} {n : Nat} (h10 : n ≤ 10) : nI (mask (cor σ) n) = 0 ↔ ∀ p, p < n → cor σ p = false := by
  have hm := mask_1024 (cor σ) h10
  constructor
  · intro h p hp
    have h0 : mask (cor σ) n = 0 := nI_j (b := 0) (by omega) (by omega) h
    have hb := mask_bit (cor σ) p n
    rw [h0, Nat.zero_testBit, decide_eq_true hp] at hb
    simpa using hb.symm
  · intro h
    have h1 : fb_ct (cor σ) n = 0 := fb_ct_zero.mpr h
    have h2 : mask (cor σ) n = 0 := by
      refine Nat.eq_of_testBit_eq (fun p => ?_)
      rw [mask_bit, Nat.zero_testBit]
      by_cases hp : p < n
      · rw [h p hp, Bool.and_false]
      · rw [decide_eq_false hp, Bool.false_and]
    rw [h2]; rfl
theorem fy_all {σ : St} {n : Nat} : fy σ n = n ↔ ∀ p, p < n → cor σ p = false := by
  unfold fy
  rw [fb_ct_all]
  constructor
  · intro h p hp
    have := h p hp
    cases hc : cor σ p
    · rfl
    · rw [hc] at this; cases this
  · intro h p hp
    rw [h p hp]; rfl
theorem X_holders_loop {σ : St} {n N r p : Nat} {q30 : St → Int32 → Option (Int32 × St)} (hn : gI σ 0 = nI n) (hr : gI σ 3 = nI r) (h60 : r ≤ 60) (h10 : n ≤ 10) (hp : p < n) (cp : cor σ p = true) : ∀ (k i fuel : Nat), i + k = n → k < fuel → fX2_holdersOfValueOf_4 N q30 fuel σ (nI p) (nI (hd σ r p i)) (nI i) = q30 σ (nI (hd σ r p n)) := by
  intro k
  induction k with
  | zero =>
    intro i fuel hi hf
    obtain ⟨a, rfl⟩ : ∃ k, fuel = k + 1 := ⟨fuel - 1, by omega⟩
    have hi : i = n := by omega
    subst hi
    show fX2_holdersOfValueOf_4b N q30 _ σ _ _ (nI i) = _
    unfold fX2_holdersOfValueOf_4b
    rw [hn, if_pos (nI_le (Nat.le_refl _) (by omega))]
  | succ k ih =>
    intro i fuel hi hf
    obtain ⟨a, rfl⟩ : ∃ k, fuel = k + 1 := ⟨fuel - 1, by omega⟩
    rw [← ih (i + 1) a (by omega) (by omega)]
    show fX2_holdersOfValueOf_4b N q30 (fX2_holdersOfValueOf_4 N q30 a) σ _ _ (nI i) = _
    unfold fX2_holdersOfValueOf_4b
    rw [hn, if_neg (nI_nge (by omega) (by omega)), X_same hn hr h60 h10 hp (by omega), bd2_e, lt1_e, lt1_e, lt1_e, nI_1, nI_1, cp, Bool.true_and]
    by_cases h : (cor σ i && sm σ r p i) = true
    · rw [if_pos h, if_neg z10, show hd σ r p (i + 1) = hd σ r p i + 1 from ct_t (p := fun q => cor σ q && sm σ r p q) h]
    · rw [if_neg h, if_pos rfl, show hd σ r p (i + 1) = hd σ r p i from ct_f (p := fun q => cor σ q && sm σ r p q) h]
theorem X_holders {σ : St} {n N r p : Nat} (hN : 2000 ≤ N) (hn : gI σ 0 = nI n) (hr : gI σ 3 = nI r) (h60 : r ≤ 60) (h10 : n ≤ 10) (hp : p < n) (cp : cor σ p = true) : fX2_holdersOfValueOf N σ (nI p) = some (nI (hd σ r p n), σ) := by
  unfold fX2_holdersOfValueOf
  exact X_holders_loop (q30 := fun σ24 x23 => some (x23, σ24)) hn hr h60 h10 hp cp n 0 N (by omega) (by omega)
theorem hd_pos {σ : St} {n r p : Nat} (hp : p < n) (cp : cor σ p = true) : 0 < hd σ r p n := by
  unfold hd
  rw [fb_ct_pos]
  exact ⟨p, hp, by rw [cp]; unfold sm; simp⟩
theorem one_ct {p n : Nat} (h : p < n) : fb_ct (fun q => decide (q = p)) n = 1 := by
  have h1 := fb_ct_upd (fun _ => false) true h
  have h2 : fb_ct (fun _ => false) n = 0 := fb_ct_zero.mpr (fun _ _ => rfl)
  have h3 : fb_ct (fun k => if k = p then true else (fun _ => false) k) n = fb_ct (fun q => decide (q = p)) n := fb_ct_cong (fun k _ => by
    by_cases e : k = p
    · simp [e]
    · simp [e])
  rw [h2, h3] at h1
  simpa using h1
theorem row_ct {σ : St} {n p : Nat} (hp : p < n) : fb_ct (lkT σ 0 p) n + 1 ≤ n ∧ (fb_ct (lkT σ 0 p) n + 1 = n ↔ ∀ q, q < n → p ≠ q → lkT σ 0 p q = true) := by
  have h1 : fb_ct (fun q => lkT σ 0 p q || decide (q = p)) n = fb_ct (lkT σ 0 p) n + fb_ct (fun q => decide (q = p)) n := fb_ct_or (fun k hk z => by
    have e : k = p := of_decide_eq_true z.2
    have f := (of_decide_eq_true z.1 : p ≠ k ∧ _).1
    exact f e.symm)
  rw [one_ct hp] at h1
  have h2 := fb_ct_le (fun q => lkT σ 0 p q || decide (q = p)) n
  refine ⟨by omega, ?_⟩
  rw [← h1, fb_ct_all]
  constructor
  · intro h q hq hpq
    have := h q hq
    have e : decide (q = p) = false := decide_eq_false (fun z => hpq z.symm)
    rw [e, Bool.or_false] at this
    exact this
  · intro h q hq
    by_cases e : q = p
    · rw [decide_eq_true e, Bool.or_true]
    · rw [h q hq (fun z => e z.symm), Bool.true_or]
theorem sum_full {f : Nat → Nat} {c : Nat} : ∀ n, (∀ p, p < n → f p ≤ c) → (fb_sm f n = n * c ↔ ∀ p, p < n → f p = c) := by
  intro n hb
  have h1 := fb_sm_add f (fun p => c - f p) n
  have h2 : fb_sm (fun k => f k + (c - f k)) n = n * c := by
    rw [← fb_sm_const c n]
    exact fb_sm_cong (fun k hk => by have := hb k hk; omega)
  constructor
  · intro h p hp
    have h3 := fb_sm_zero (f := fun p => c - f p) (n := n) (by omega) p hp
    have h4 := hb p hp
    have h3 : c - f p = 0 := h3
    omega
  · intro h
    rw [← fb_sm_const c n]
    exact fb_sm_cong h
def gd (σ : St) (n : Nat) : Prop := ∀ p q, p < n → q < n → p ≠ q → gF σ 1 (10 * p + q) = 0
theorem lk_full {σ : St} {n : Nat} (h1 : 1 ≤ n) : lk σ 0 n n = n * (n - 1) ↔ gd σ n := by
  unfold lk
  rw [sum_full n (fun p hp => by have := (row_ct (σ := σ) hp).1; omega)]
  constructor
  · intro h p q hp hq hpq
    have h2 := h p hp
    have h3 := (row_ct (σ := σ) hp).2.mp (by omega) q hq hpq
    have h4 := of_decide_eq_true h3
    obtain ⟨-, h5, h6⟩ := h4
    rw [fa_eq]
    rw [fa_le] at h5 h6
    have e0 : (0 : Int32).toInt = 0 := rfl
    have e1 : (nI 0).toInt = 0 := rfl
    omega
  · intro h p hp
    have h3 := (row_ct (σ := σ) hp).2.mpr (fun q hq hpq => by
      unfold lkT
      rw [h p q hp hq hpq]
      exact decide_eq_true ⟨hpq, by decide, by decide⟩)
    omega
theorem lk_le (σ : St) (n p : Nat) : lk σ 0 n p ≤ p * n := fb_sm_bound (fun k _ => fb_ct_le _ n)
theorem X_guar {σ : St} {n t rule N : Nat} (hN : 2000 ≤ N) (hn : gI σ 0 = nI n) (h2 : 2 ≤ n) (h10 : n ≤ 10) (ht : gI σ 1 = nI t) (h3 : t ≤ 3) (hr : gI σ 4 = nI rule) (hr3 : rule ≤ 3) : ∃ v : Int32, fX2_isGuaranteed N σ = some (v, σ) ∧ (v = 0 ∨ v = 1) ∧ (v = 1 ↔ gd σ n ∧ fy σ n ≤ t ∧ 3 * t < n ∧ rule ≠ 2) := by
  have hl := lk_le σ n n
  have hnn : n * n ≤ 100 := Nat.mul_le_mul h10 h10
  have hn1 : n * (n - 1) ≤ n * n := Nat.mul_le_mul_left n (by omega)
  have hf := fy_le σ n
  unfold fX2_isGuaranteed
  rw [show fX2_linksWithDelay N σ (0 : Int32) = _ from X_links (mx := 0) hN hn h10, bd2_e, X_faulty hN hn h10, bd2_e, hn, ht, hr, li1, pk_sub (show 1 ≤ n by omega), pk_mul, li3, pk_mul]
  by_cases h1 : lk σ 0 n n = n * (n - 1)
  · rw [if_pos (show nI (lk σ 0 n n) = nI (n * (n - 1)) from by rw [h1])]
    have hg := (lk_full (by omega)).mp h1
    by_cases h4 : t < fy σ n
    · rw [if_pos (nI_lt h4 (by omega))]
      exact ⟨0, rfl, Or.inl rfl, fun z => absurd z (by decide), fun z => by omega⟩
    · rw [if_neg (nI_nlt (by omega) (by omega))]
      by_cases h5 : n ≤ 3 * t
      · rw [if_pos (nI_le h5 (by omega))]
        exact ⟨0, rfl, Or.inl rfl, fun z => absurd z (by decide), fun z => by omega⟩
      · rw [if_neg (nI_nge (by omega) (by omega))]
        by_cases h6 : rule = 2
        · rw [if_pos (cR_eq 2 h6)]
          exact ⟨0, rfl, Or.inl rfl, fun z => absurd z (by decide), fun z => absurd h6 z.2.2.2⟩
        · rw [if_neg (cR_ne 2 h6 (by omega) (by omega))]
          exact ⟨1, rfl, Or.inr rfl, fun _ => ⟨hg, by omega, by omega, h6⟩, fun _ => rfl⟩
  · rw [if_neg (nI_ne h1 (by omega) (by omega))]
    exact ⟨0, rfl, Or.inl rfl, fun z => absurd z (by decide), fun z => absurd ((lk_full (by omega)).mpr z.1) h1⟩
theorem sd_z {h : Int32} (q : h = 0) : sd h = 0 := if_pos q
theorem sd_nz {h : Int32} (q : ¬ h = 0) : sd h = 1 := if_neg q
/-! numbers that are told, in units -/
theorem u_no (x y : Int64) : fL_units (-9223372036854775808) x y = some (-9223372036854775808) := by
  unfold fL_units fL_none
  rw [bd0_e, if_neg (by decide)]
theorem fr_ge {a : Int64} {d : Nat} (hd : 0 < d) (hd2 : d < 1000000) (h1 : -20000000000 ≤ a.toInt) (h2 : a.toInt ≤ 20000000000) (hdv : (d : Int) ∣ a.toInt) : (a / lN d).toInt * (d : Int) = a.toInt ∧ -20000000000 ≤ (a / lN d).toInt ∧ (a / lN d).toInt ≤ 20000000000 := by
  have hdT : (lN d).toInt = (d : Int) := pk_lT (by omega)
  obtain ⟨q, hq⟩ := hdv
  have hq1 : a.toInt.tdiv (d : Int) = q := by rw [hq]; exact Int.mul_tdiv_cancel_left q (by omega)
  have hqb : -20000000000 ≤ q ∧ q ≤ 20000000000 := by
    have hd1 : (1 : Int) ≤ d := by omega
    constructor
    · by_cases hn : 0 ≤ q
      · omega
      · have := Int.mul_le_mul_of_nonpos_right hd1 (show q ≤ 0 by omega)
        rw [Int.one_mul] at this
        omega
    · by_cases hn : 0 ≤ q
      · have := Int.mul_le_mul_of_nonneg_right hd1 hn
        rw [Int.one_mul] at this
        omega
      · omega
  have hT : (a / lN d).toInt = q := by
    rw [Int64.toInt_div, hdT, hq1]
    exact fb_bmodL (by omega) (by omega)
  rw [hT]
  exact ⟨by rw [hq, Int.mul_comm], hqb.1, hqb.2⟩
theorem dvd_abs {x : Int} {d : Nat} (h : d ∣ x.natAbs) : (d : Int) ∣ x := by
  obtain ⟨q, hq⟩ := h
  rcases Int.natAbs_eq x with e | e
  · exact ⟨(q : Int), by omega⟩
  · exact ⟨-(q : Int), by rw [Int.mul_neg]; omega⟩
theorem frac_u {a : Int64} {g : Nat} (hg1 : 1 ≤ g) (hg : g ≤ 720720) (h1 : -20000000000 ≤ a.toInt) (h2 : a.toInt ≤ 20000000000) : fL_units (frac a g 0) (frac a g 1) (lN g) = some a ∧ ¬ frac a g 1 ≤ (-9000000000000000000 : Int64) ∧ ¬ frac a g 0 ≤ (-9000000000000000000 : Int64) := by
  have hd : 0 < Nat.gcd a.toInt.natAbs g := Nat.gcd_pos_of_pos_right _ (by omega)
  have hd2 : Nat.gcd a.toInt.natAbs g ≤ g := Nat.gcd_le_right _ (by omega)
  obtain ⟨g', hg'⟩ := Nat.gcd_dvd_right a.toInt.natAbs g
  have hdv : ((Nat.gcd a.toInt.natAbs g : Nat) : Int) ∣ a.toInt := dvd_abs (Nat.gcd_dvd_left _ _)
  have hf0 : frac a g 0 = a / lN (Nat.gcd a.toInt.natAbs g) := if_pos rfl
  have hf1 : frac a g 1 = lN g / lN (Nat.gcd a.toInt.natAbs g) := if_neg (by decide)
  generalize Nat.gcd a.toInt.natAbs g = d at hd hd2 hg' hdv hf0 hf1
  obtain ⟨e1, e2, e3⟩ := fr_ge hd (by omega) h1 h2 hdv
  have hg0 : 0 < g' := by
    by_cases z : g' = 0
    · subst z; omega
    · omega
  have hgd : g / d = g' := by rw [hg']; exact Nat.mul_div_cancel_left g' hd
  have hgd2 : g / g' = d := by rw [hg']; exact Nat.mul_div_cancel d hg0
  have hle : g' ≤ g := by rw [hg']; exact Nat.le_mul_of_pos_left g' hd
  have hd1 : lN g / lN d = lN g' := by rw [pk_lDiv (by omega) (by omega) (by omega), hgd]
  have hlo : (-9000000000000000000 : Int64).toInt = -9000000000000000000 := rfl
  refine ⟨?_, ?_, ?_⟩
  · unfold fL_units fL_none
    rw [bd0_e, hf0, hf1, hd1, if_pos (by rw [fa_le64, hlo]; omega), if_neg (dR_ne 0 (by omega) (by omega) (by omega)), pk_lDiv (by omega) (by omega) (by omega), hgd2]
    congr 1
    rw [fa_eq64]
    have hdT : (lN d).toInt = (d : Int) := pk_lT (by omega)
    rw [fb_mulL (by rw [hdT, e1]; omega) (by rw [hdT, e1]; omega), hdT, e1]
  · rw [hf1, hd1, fa_le64, hlo, pk_lT (by omega)]; omega
  · rw [hf0, fa_le64, hlo]; omega
theorem bnd_u {a : Int64} (h : bnd a) : -20000000000 ≤ a.toInt ∧ a.toInt ≤ 20000000000 := by
  unfold bnd at h; omega
theorem Iv.frac {σ : St} {n t g rule len r N : Nat} (hN : 2000 ≤ N) (I : Iv σ n t g rule len r) {a : Int64} (h1 : -20000000000 ≤ a.toInt) (z : Int32) : fX2_asFraction N σ a z = some (frac a g z, σ) := by
  have hg7 := I.g7
  have hg1 := I.g1
  unfold fX2_asFraction
  rw [I.xg, nI_l (by omega), X_frac hN (by omega) (by omega) (by omega), bd0_e]
/-! values, inputs, what is received, what is left over -/
theorem X_value {σ : St} {n t g rule len r N p k : Nat} {hi z : Int32} (hN : 2000 ≤ N) (I : Iv σ n t g rule len r) (hp : p < n) (hk : k ≤ r) (hc : cor σ p = true) : fX2_value N σ (nI p) (nI k) hi z = some (frac (val σ k p (sd hi)) g z, σ) := by
  have h10 := I.n10
  have h60 := I.r60
  unfold fX2_value
  rw [I.corr hp, bd2_e, if_pos hc, if_neg z10, I.xr, isW, if_pos ⟨cL_le 0 (Nat.zero_le _) (by omega), nI_le hk (by omega)⟩, bd0_e, if_neg z10, X_end _ (by omega), bd2_e, I.frac hN (bnd_u (I.bv k p _ hk hp (sd_lt hi) hc)).1, bd2_e]
theorem X_value0 {σ : St} {n t g rule len r N p : Nat} {k hi z : Int32} (I : Iv σ n t g rule len r) (hp : p < n) (hc : ¬ cor σ p = true) : fX2_value N σ (nI p) k hi z = some (-9223372036854775808, σ) := by
  unfold fX2_value
  rw [I.corr hp, bd2_e, if_neg hc, if_pos rfl]
theorem X_input {σ : St} {n t g rule len r N p : Nat} {hi z : Int32} (hN : 2000 ≤ N) (I : Iv σ n t g rule len r) (hp : p < n) : fX2_input N σ (nI p) hi z = some (frac (inp σ p (sd hi)) g z, σ) := by
  have h10 := I.n10
  have hb := I.bi p (by omega)
  unfold fX2_input
  rw [I.node hp, bd2_e, if_neg z10, show fX0_end σ 3 (0 : Int32) (nI p) hi = _ from X_end (k := 0) hi (by omega), bd2_e, val_0, I.frac hN ?_, bd2_e]
  unfold inp
  by_cases h : sd hi = 0
  · rw [if_pos h]; exact (bnd_u hb.1).1
  · rw [if_neg h]; exact (bnd_u hb.2).1
theorem X_received {σ : St} {n t g rule len r N p q : Nat} {hi z : Int32} (hN : 2000 ≤ N) (I : Iv σ n t g rule len r) (hq : q < n) (hc : cor σ q = true) (hp : p < n) : fX2_received N σ (nI q) (nI p) hi z = some (if rc σ q p = true then frac (sv σ n g r p q (sd hi)) g z else -9223372036854775808, σ) := by
  have h10 := I.n10
  unfold fX2_received
  rw [I.corr hq, bd2_e, if_pos hc, if_neg z10, I.node hp, bd2_e, if_neg z10, X_delayOf (by omega) (by omega), bd2_e]
  by_cases hd : gF σ 1 (10 * p + q) = -1
  · rw [if_pos hd, if_neg (by unfold rc; rw [decide_eq_true_eq]; exact fun z => z hd)]
  · have hs := X_sent (hi := hi) hN I hp hq hc hd
    rw [if_neg hd, if_pos (show rc σ q p = true from decide_eq_true hd), hs.1, bd2_e, I.frac hN (bnd_u hs.2).1, bd2_e]
theorem X_rest {σ : St} {n t g rule len r N q x : Nat} {hi z : Int32} (hN : 2000 ≤ N) (I : Iv σ n t g rule len r) (hq : q < n) (hc : cor σ q = true) (hx : x < 100) : ∃ f, fX2_rest N σ (nI q) (nI x) hi z = some (if x < (gr σ n g r q (sd hi)).1 - 2 * t then frac ((gr σ n g r q (sd hi)).2 (t + x)) g z else -9223372036854775808, sG σ 5 f) := by
  have h10 := I.n10
  have hn := gr_n (σ := σ) (n := n) (g := g) (r := r) (q := q) (s := sd hi)
  obtain ⟨f, g1, g2⟩ := X_collect (hi := hi) hN I hq hc
  have I' := I.g5 f
  refine ⟨f, ?_⟩
  unfold fX2_rest
  rw [I.corr hq, bd2_e, if_pos hc, if_neg z10, if_neg (nI_pos (by omega)), g2, bd2_e]
  by_cases hl : x < (gr σ n g r q (sd hi)).1 - 2 * t
  · rw [if_pos (nI_lt hl (by omega)), if_pos hl, X_restAt I'.xt (by omega), bd2_e, show gG (sG σ 5 f) 5 = f from rfl, g1 (t + x) (by omega), I'.frac hN (bnd_u (gr_bnd I hq (sd_lt hi) hc (t + x) (by omega))).1, bd2_e]
  · rw [if_neg (nI_nlt (by omega) (by omega)), if_neg hl]
theorem X_rest_neg {σ : St} {n t g rule len r N q : Nat} {hi z : Int32} (I : Iv σ n t g rule len r) (hq : q < n) (hc : cor σ q = true) : fX2_rest N σ (nI q) (-1) hi z = some (-9223372036854775808, σ) := by
  unfold fX2_rest
  rw [I.corr hq, bd2_e, if_pos hc, if_neg z10, if_pos (by decide)]
theorem X_strategy {σ : St} {n t g rule len r p : Nat} (I : Iv σ n t g rule len r) (hp : p < n) : fX2_strategy σ (nI p) = some (gF σ 2 p, σ) := by
  have h10 := I.n10
  unfold fX2_strategy
  rw [I.node hp, bd2_e, if_neg z10, if_neg (nI_in (by omega) (by omega)), nI_clamp (by omega)]
/-! widths, rates -/
theorem X_wid {σ : St} {n t g rule len r N k : Nat} {z : Int32} {m : Int64} (hN : 2000 ≤ N) (I : Iv σ n t g rule len r) (hk : k ≤ r) (hm : Wd σ n k m) : fX2_width N σ (nI k) z = some (frac m g z, σ) := by
  have h60 := I.r60
  obtain ⟨m', h1, h2, h3, h4⟩ := I.width hN hk
  obtain rfl := h2.one hm
  unfold fX2_width
  rw [I.xr, isW, if_pos ⟨cL_le 0 (Nat.zero_le _) (by omega), nI_le hk (by omega)⟩, bd0_e, if_neg z10, h1, bd2_e, I.frac hN (by omega), bd2_e]
theorem X_wid_out {σ : St} {n t g rule len r N k : Nat} {z : Int32} (I : Iv σ n t g rule len r) (hk : r < k) (hk2 : k < 1000) : fX2_width N σ (nI k) z = some (-9223372036854775808, σ) := by
  unfold fX2_width
  rw [I.xr, isW, if_neg (fun z => nI_nge hk (by omega) z.2), bd0_e, if_pos rfl]
theorem X_rate {σ : St} {n t g rule len r N k : Nat} {z : Int32} {m m' : Int64} (hN : 2000 ≤ N) (I : Iv σ n t g rule len r) (hk : k + 1 ≤ r) (hm : Wd σ n k m) (hm' : Wd σ n (k + 1) m') : fX2_rate N σ (nI (k + 1)) z = some (if m = 0 then -9223372036854775808 else frac m' m.toInt.toNat z, σ) := by
  have h60 := I.r60
  obtain ⟨w, h1, h2, h3, h4⟩ := I.width hN (show k ≤ r by omega)
  obtain rfl := h2.one hm
  obtain ⟨w', k1, k2, k3, k4⟩ := I.width hN hk
  obtain rfl := k2.one hm'
  unfold fX2_rate
  rw [I.xr, isW, if_pos ⟨cL_le 1 (by omega) (by omega), nI_le hk (by omega)⟩, bd0_e, if_neg z10, show nI (k + 1) - (1 : Int32) = nI k from by rw [li1, pk_sub (by omega)]; rfl, h1, bd2_e]
  by_cases hz : w = 0
  · rw [if_pos hz, if_pos hz]
  · have hw : w = lN w.toInt.toNat := by rw [fa_eq64, pk_lT (by omega)]; omega
    have hpos : 0 < w.toInt.toNat := by
      have : w.toInt ≠ 0 := fun z => hz (by rw [fa_eq64]; exact z)
      omega
    have hfr := X_frac (N := N) hN (a := w') (b := w.toInt.toNat) (by omega) hpos (by omega) z
    rw [← hw] at hfr
    rw [if_neg hz, if_neg hz, k1, bd2_e, hfr, bd0_e]
theorem X_rate0 {σ : St} {n t g rule len r N : Nat} {z : Int32} : fX2_rate N σ (0 : Int32) z = some (-9223372036854775808, σ) := by
  unfold fX2_rate
  rw [isW, if_neg (fun z => absurd z.1 (by decide)), bd0_e, if_pos rfl]
/-! the guarantee -/
def fac (n t rule u c : Nat) : Prop := (t = 0 ∧ u = 0 ∧ c = 1) ∨ (0 < t ∧ ((rule = 0 ∧ u = t ∧ c = n - 2 * t) ∨ (rule = 1 ∧ u = 1 ∧ c = 2) ∨ (rule = 3 ∧ u = 1 ∧ c = (n - 2 * t - 1) / t + 1)))
theorem frac_n {u c : Nat} (hu : u < 1000) (hc : 0 < c) (hc2 : c < 1000) : frac (lN u) c 0 = lN (u / Nat.gcd u c) ∧ frac (lN u) c 1 = lN (c / Nat.gcd u c) := by
  have hT : (lN u).toInt.natAbs = u := by rw [pk_lT (by omega)]; omega
  have hd : 0 < Nat.gcd u c := Nat.gcd_pos_of_pos_right _ hc
  have hd2 : Nat.gcd u c ≤ c := Nat.gcd_le_right _ hc
  unfold frac
  rw [hT, if_pos rfl, if_neg (by decide), pk_lDiv (by omega) (by omega) (by omega), pk_lDiv (by omega) (by omega) (by omega)]
  exact ⟨rfl, rfl⟩
theorem X_gua {σ : St} {n t g rule len r N : Nat} (hN : 2000 ≤ N) (I : Iv σ n t g rule len r) : (∀ z, fX2_guarantee N σ z = some (-9223372036854775808, σ)) ∨ (gd σ n ∧ fy σ n ≤ t ∧ 3 * t < n ∧ rule ≠ 2 ∧ ∃ u c, fac n t rule u c ∧ 0 < c ∧ c < 1000 ∧ u < 1000 ∧ fX2_guarantee N σ 0 = some (lN (u / Nat.gcd u c), σ) ∧ fX2_guarantee N σ 1 = some (lN (c / Nat.gcd u c), σ)) := by
  have h10 := I.n10
  have h3 := I.t3
  have hr3 := I.u3
  obtain ⟨v, x1, x2, x3⟩ := X_guar hN I.xn I.n2 h10 I.xt h3 I.xu hr3
  rcases x2 with rfl | rfl
  · left
    intro z
    unfold fX2_guarantee
    rw [x1, bd2_e, if_pos rfl]
  · obtain ⟨y1, y2, y3, y4⟩ := x3.mp rfl
    right
    refine ⟨y1, y2, y3, y4, ?_⟩
    have fin : ∀ u c : Nat, u < 1000 → 0 < c → c < 1000 → fac n t rule u c → (∀ z, fX2_guarantee N σ z = bd0 (fX2_inLowestTerms N (lN u) (lN c) z) fun r => some (r, σ)) → ∃ u c, fac n t rule u c ∧ 0 < c ∧ c < 1000 ∧ u < 1000 ∧ fX2_guarantee N σ 0 = some (lN (u / Nat.gcd u c), σ) ∧ fX2_guarantee N σ 1 = some (lN (c / Nat.gcd u c), σ) := by
      intro u c hu hc0 hc hf he
      have hr : ∀ z, fX2_inLowestTerms N (lN u) (lN c) z = some (frac (lN u) c z) := fun z => X_frac hN (by rw [pk_lT (by omega)]; omega) hc0 (by omega) z
      have hn := frac_n hu hc0 hc
      refine ⟨u, c, hf, hc0, hc, hu, ?_, ?_⟩
      · rw [he, hr, bd0_e, hn.1]
      · rw [he, hr, bd0_e, hn.2]
    have e0 : ∀ z, fX2_guarantee N σ z = _ := fun z => by
      unfold fX2_guarantee
      rw [x1, bd2_e, if_neg z10, I.xn, I.xt, I.xu, li2, pk_mul, pk_sub (show 2 * t ≤ n by omega), nI_l (show t < 2147483648 by omega), nI_l (show n - 2 * t < 2147483648 by omega), show nI (n - 2 * t) - (1 : Int32) = nI (n - 2 * t - 1) from pk_sub (show 1 ≤ n - 2 * t by omega)]
    by_cases ht : t = 0
    · subst ht
      refine fin 0 1 (by omega) (by omega) (by omega) (Or.inl ⟨rfl, rfl, rfl⟩) (fun z => ?_)
      rw [e0, if_pos (show nI 0 = 0 from rfl)]; rfl
    · by_cases h0 : rule = 0
      · subst h0
        refine fin t (n - 2 * t) (by omega) (by omega) (by omega) (Or.inr ⟨by omega, Or.inl ⟨rfl, rfl, rfl⟩⟩) (fun z => ?_)
        rw [e0, if_neg (cR_ne 0 ht (by omega) (by omega)), if_pos (show nI 0 = 0 from rfl)]
      · by_cases h1 : rule = 1
        · subst h1
          refine fin 1 2 (by omega) (by omega) (by omega) (Or.inr ⟨by omega, Or.inr (Or.inl ⟨rfl, rfl, rfl⟩)⟩) (fun z => ?_)
          rw [e0, if_neg (cR_ne 0 ht (by omega) (by omega)), if_neg (show ¬ nI 1 = 0 from by decide), if_pos (show nI 1 = 1 from rfl)]; rfl
        · have hd : (n - 2 * t - 1) / t ≤ n - 2 * t - 1 := Nat.div_le_self _ _
          refine fin 1 ((n - 2 * t - 1) / t + 1) (by omega) (Nat.succ_pos _) (Nat.lt_of_le_of_lt (Nat.succ_le_succ hd) (by omega)) (Or.inr ⟨by omega, Or.inr (Or.inr ⟨by omega, rfl, rfl⟩)⟩) (fun z => ?_)
          rw [e0, if_neg (cR_ne 0 ht (by omega) (by omega)), if_neg (cR_ne 0 h0 (by omega) (by omega)), if_neg (cR_ne 1 h1 (by omega) (by omega)), if_neg (cR_ne 0 ht (by omega) (by omega)), pk_div (by omega) (by omega) (by omega), nI_1, nI_l (Nat.lt_of_le_of_lt (Nat.succ_le_succ hd) (by omega))]; rfl
/-! who is outside -/
theorem outside_loop {σ : St} {n t g rule len r N : Nat} (I : Iv σ n t g rule len r) {q108 : St → Int32 → Option (Int32 × St)} {L M : Int64} (h : ∀ p, p < n → cor σ p = true → L.toInt ≤ (val σ r p 0).toInt ∧ (val σ r p 1).toInt ≤ M.toInt) : ∀ (k i fX : Nat), i + k = n → k < fX → fX2_outside_36 N q108 fX σ L M 0 (nI i) = q108 σ 0 := by
  have h10 := I.n10
  have h60 := I.r60
  intro k
  induction k with
  | zero =>
    intro i fX hi hfX
    obtain ⟨a, rfl⟩ : ∃ k, fX = k + 1 := ⟨fX - 1, by omega⟩
    have hi : i = n := by omega
    subst hi
    show fX2_outside_36b N q108 _ σ L M 0 (nI i) = _
    unfold fX2_outside_36b
    rw [I.xn, if_pos (nI_le (Nat.le_refl _) (by omega))]
  | succ k ih =>
    intro i fX hi hfX
    obtain ⟨a, rfl⟩ : ∃ k, fX = k + 1 := ⟨fX - 1, by omega⟩
    have e := ih (i + 1) a (by omega) (by omega)
    show fX2_outside_36b N q108 (fX2_outside_36 N q108 a) σ L M 0 (nI i) = _
    unfold fX2_outside_36b
    rw [I.xn, if_neg (nI_nge (by omega) (by omega)), I.corr (show i < n by omega), bd2_e]
    by_cases hc : cor σ i = true
    · have hv := h i (by omega) hc
      rw [if_pos hc, if_neg z10, I.xr, X_end _ (by omega), bd2_e, sd_0, if_neg (fun z => by rw [fa_lt64] at z; omega), I.xr, X_end _ (by omega), bd2_e, sd_1, if_pos (by rw [fa_le64]; omega), lt1_e, nI_1]
      exact e
    · rw [if_neg hc, if_pos rfl, lt1_e, nI_1]
      exact e
theorem X_outside {σ : St} {n t g rule len r N : Nat} (hN : 2000 ≤ N) (I : Iv σ n t g rule len r) (h : ∀ L M : Int, (∀ q, q < n → cor σ q = true → L ≤ (val σ 0 q 0).toInt ∧ (val σ 0 q 1).toInt ≤ M) → ∀ p, p < n → cor σ p = true → L ≤ (val σ r p 0).toInt ∧ (val σ r p 1).toInt ≤ M) : fX2_outside N σ = some (0, σ) := by
  have h10 := I.n10
  unfold fX2_outside
  rw [X_correctSet hN I.xn h10, bd2_e, show fX0_extremeEnd N σ 3 (0 : Int32) (nI (mask (cor σ) n)) (0 : Int32) (0 : Int32) = _ from X_ext (k := 0) hN h10 (by omega), bd2_e, show fX0_extremeEnd N σ 3 (0 : Int32) (nI (mask (cor σ) n)) (1 : Int32) (1 : Int32) = _ from X_ext (k := 0) hN h10 (by omega), bd2_e, sd_0, sd_1, show decide (¬ (0 : Int32) = 0) = false from by decide, show decide (¬ (1 : Int32) = 0) = true from by decide]
  refine outside_loop (q108 := fun σ51 x50 => some (x50, σ51)) I ?_ n 0 N (by omega) (by omega)
  have i1 := ex_in (f := fun p => val σ 0 p 0) (c := cor σ) (gr := false) n
  have i2 := ex_in (f := fun p => val σ 0 p 1) (c := cor σ) (gr := true) n
  intro p hp hc
  have j1 := i1.resolve_left (fun z => by have := z.2.1 p hp; rw [hc] at this; cases this)
  have j2 := i2.resolve_left (fun z => by have := z.2.1 p hp; rw [hc] at this; cases this)
  exact h _ _ (fun q hq hcq => ⟨(j1.2.2 q hq hcq).2 rfl, (j2.2.2 q hq hcq).1 rfl⟩) p hp hc
/-! the most frequent value -/
theorem most_loop {σ : St} {n t g rule len r N : Nat} (hN : 2000 ≤ N) (I : Iv σ n t g rule len r) : ∀ (k i c b : Nat), i + k = n → ((c = 0 ∧ ∀ p, p < i → ¬ cor σ p = true) ∨ (b < n ∧ cor σ b = true ∧ c = hd σ r b n)) →
    ∃ c' b', ((c' = 0 ∧ ∀ p, p < n → ¬ cor σ p = true) ∨ (b' < n ∧ cor σ b' = true ∧ c' = hd σ r b' n)) ∧ ∀ (q79 : St → Int32 → Int32 → Int32 → Option (Int32 × St)) (x : Int32) (fX : Nat), k < fX → fX2_mostFrequent_31 N q79 fX σ x (nI b) (nI c) (nI i) = q79 σ x (nI b') (nI c') := by
  have h10 := I.n10
  have h60 := I.r60
  intro k
  induction k with
  | zero =>
    intro i c b hi hh
    have hi : i = n := by omega
    subst hi
    refine ⟨c, b, hh, fun q79 x fX hfX => ?_⟩
    obtain ⟨a, rfl⟩ : ∃ k, fX = k + 1 := ⟨fX - 1, by omega⟩
    show fX2_mostFrequent_31b N q79 _ σ _ _ _ (nI i) = _
    unfold fX2_mostFrequent_31b
    rw [I.xn, if_pos (nI_le (Nat.le_refl _) (by omega))]
  | succ k ih =>
    intro i c b hi hh
    have hcn : c < 2147483648 := by
      rcases hh with z | z
      · omega
      · have := hd_le σ r b n; omega
    have eX : ∀ (q79 : St → Int32 → Int32 → Int32 → Option (Int32 × St)) (x : Int32) (a : Nat), fX2_mostFrequent_31 N q79 (a + 1) σ x (nI b) (nI c) (nI i) = (if cor σ i = true then (if hd σ r i n ≤ c then fX2_mostFrequent_31 N q79 a σ x (nI b) (nI c) (nI (i + 1)) else fX2_mostFrequent_31 N q79 a σ x (nI i) (nI (hd σ r i n)) (nI (i + 1))) else fX2_mostFrequent_31 N q79 a σ x (nI b) (nI c) (nI (i + 1))) := by
      intro q79 x a
      show fX2_mostFrequent_31b N q79 (fX2_mostFrequent_31 N q79 a) σ x (nI b) (nI c) (nI i) = _
      unfold fX2_mostFrequent_31b
      rw [I.xn, if_neg (nI_nge (by omega) (by omega)), I.corr (show i < n by omega), bd2_e]
      by_cases hci : cor σ i = true
      · have hl := hd_le σ r i n
        rw [if_pos hci, if_neg z10, if_pos hci, X_holders hN I.xn I.xr h60 h10 (by omega) hci, bd2_e]
        by_cases hle : hd σ r i n ≤ c
        · rw [if_pos (nI_le hle (by omega)), if_pos hle, lt1_e, nI_1]
        · rw [if_neg (nI_nge (by omega) (by omega)), if_neg hle, lt1_e, nI_1]
      · rw [if_neg hci, if_pos rfl, if_neg hci, if_pos (nI_pos' (by omega)), lt1_e, nI_1]
    by_cases hci : cor σ i = true
    · have hp := hd_pos (r := r) (show i < n by omega) hci
      by_cases hle : hd σ r i n ≤ c
      · obtain ⟨c', b', g1, g2⟩ := ih (i + 1) c b (by omega) (Or.inr (hh.resolve_left (fun z => by omega)))
        refine ⟨c', b', g1, fun q79 x fX hfX => ?_⟩
        obtain ⟨a, rfl⟩ : ∃ k, fX = k + 1 := ⟨fX - 1, by omega⟩
        rw [eX, if_pos hci, if_pos hle]
        exact g2 q79 x a (by omega)
      · obtain ⟨c', b', g1, g2⟩ := ih (i + 1) (hd σ r i n) i (by omega) (Or.inr ⟨by omega, hci, rfl⟩)
        refine ⟨c', b', g1, fun q79 x fX hfX => ?_⟩
        obtain ⟨a, rfl⟩ : ∃ k, fX = k + 1 := ⟨fX - 1, by omega⟩
        rw [eX, if_pos hci, if_neg hle]
        exact g2 q79 x a (by omega)
    · obtain ⟨c', b', g1, g2⟩ := ih (i + 1) c b (by omega) (by
        rcases hh with z | z
        · refine Or.inl ⟨z.1, fun p hp => ?_⟩
          by_cases e : p = i
          · subst e; exact hci
          · exact z.2 p (by omega)
        · exact Or.inr z)
      refine ⟨c', b', g1, fun q79 x fX hfX => ?_⟩
      obtain ⟨a, rfl⟩ : ∃ k, fX = k + 1 := ⟨fX - 1, by omega⟩
      rw [eX, if_neg hci]
      exact g2 q79 x a (by omega)
theorem X_most {σ : St} {n t g rule len r N : Nat} (hN : 2000 ≤ N) (I : Iv σ n t g rule len r) : ((∀ p, p < n → ¬ cor σ p = true) ∧ fX2_mostFrequent N σ 1 = some (-1005, σ) ∧ fX2_mostFrequent N σ 0 = some (-1005, σ)) ∨ (∃ b, b < n ∧ cor σ b = true ∧ fX2_mostFrequent N σ 1 = some (nI (hd σ r b n), σ) ∧ fX2_mostFrequent N σ 0 = some (nI b, σ)) := by
  have h10 := I.n10
  have e : ∀ x : Int32, x = 0 ∨ x = 1 → fX2_mostFrequent N σ x = (if nI (mask (cor σ) n) = 0 then some (-1005, σ) else fX2_mostFrequent_31 N (fun σ49 x46 x47 x48 => if x46 = (0 : Int32) then (some (x47, σ49)) else (some (x48, σ49))) N σ x (0 : Int32) (0 : Int32) (0 : Int32)) := by
    intro x hx
    unfold fX2_mostFrequent
    rw [isW, if_pos (by rcases hx with rfl | rfl <;> decide), bd0_e, if_neg z10, X_correctSet hN I.xn h10, bd2_e]
  by_cases hm : nI (mask (cor σ) n) = 0
  · left
    refine ⟨fun p hp => ?_, by rw [e 1 (Or.inr rfl), if_pos hm], by rw [e 0 (Or.inl rfl), if_pos hm]⟩
    have := (mask0 h10).mp hm p hp
    rw [this]; decide
  · right
    obtain ⟨c', b', g1, g2⟩ := most_loop hN I n 0 0 0 (by omega) (Or.inl ⟨rfl, fun p hp => by omega⟩)
    have g1 := g1.resolve_left (fun z => hm ((mask0 h10).mpr (fun p hp => by
      cases h : cor σ p with
      | false => rfl
      | true => exact absurd h (z.2 p hp))))
    obtain ⟨k1, k2, k3⟩ := g1
    subst k3
    refine ⟨b', k1, k2, ?_, ?_⟩
    · rw [e 1 (Or.inr rfl), if_neg hm]
      refine Eq.trans (g2 (fun σ49 x46 x47 x48 => if x46 = (0 : Int32) then (some (x47, σ49)) else (some (x48, σ49))) 1 N (by omega)) ?_
      rw [if_neg (by decide)]
    · rw [e 0 (Or.inl rfl), if_neg hm]
      refine Eq.trans (g2 (fun σ49 x46 x47 x48 => if x46 = (0 : Int32) then (some (x47, σ49)) else (some (x48, σ49))) 0 N (by omega)) ?_
      rw [if_pos rfl]
/-- how many different values there can be -/
theorem ct_one {a : Nat → Bool} : ∀ n, (∀ p q, p < q → q < n → a p = true → a q = true → False) → fb_ct a n ≤ 1
  | 0, _ => by show 0 ≤ 1; omega
  | n + 1, h => by
    by_cases ha : a n = true
    · rw [ct_t ha]
      have h0 : fb_ct a n = 0 := fb_ct_zero.mpr (fun k hk => by
        cases hka : a k
        · rfl
        · exact (h k n hk (by omega) hka ha).elim)
      omega
    · rw [ct_f ha]
      exact ct_one n (fun p q h1 h2 => h p q h1 (by omega))
theorem cor_ct (σ : St) (n : Nat) : fb_ct (cor σ) n + fy σ n = n := fb_ct_not (cor σ) n
theorem hd_cor (σ : St) (r b n : Nat) : hd σ r b n ≤ fb_ct (cor σ) n := by
  unfold hd
  exact ct_mono (fun p hp ha => by simp only [Bool.and_eq_true] at ha; exact ha.1)
theorem dv_le {σ : St} {n r b : Nat} : dv σ r n + hd σ r b n ≤ fb_ct (cor σ) n + 1 := by
  have h1 := ct_or (n := n) (a := fun p => cor σ p && decide (hd σ r p p = 0)) (b := fun p => (cor σ p && decide (hd σ r p p = 0)) && !(cor σ p && sm σ r b p)) (d := fun p => (cor σ p && decide (hd σ r p p = 0)) && (cor σ p && sm σ r b p)) (fun p hp ha => by
    cases h : (cor σ p && sm σ r b p)
    · left; simp only [ha, Bool.not_false, Bool.and_true]
    · right; simp only [ha, Bool.and_true])
  have h2 := fb_ct_or (n := n) (p := fun p => (cor σ p && decide (hd σ r p p = 0)) && !(cor σ p && sm σ r b p)) (q := fun p => cor σ p && sm σ r b p) (fun k hk z => by
    have z1 := z.1
    have z2 := z.2
    simp only [z2, Bool.not_true, Bool.and_false] at z1
    cases z1)
  have h3 := ct_mono (n := n) (a := fun k => ((cor σ k && decide (hd σ r k k = 0)) && !(cor σ k && sm σ r b k)) || (cor σ k && sm σ r b k)) (b := cor σ) (fun p hp ha => by
    cases h : cor σ p
    · simp [h] at ha
    · rfl)
  have h4 : fb_ct (fun p => (cor σ p && decide (hd σ r p p = 0)) && (cor σ p && sm σ r b p)) n ≤ 1 := ct_one n (fun p q hpq hq ha hb => by
    simp only [Bool.and_eq_true, decide_eq_true_eq] at ha hb
    have hs : (cor σ p && sm σ r q p) = true := by
      have s1 := of_decide_eq_true ha.2.2
      have s2 := of_decide_eq_true hb.2.2
      rw [Bool.and_eq_true]
      exact ⟨ha.1.1, decide_eq_true ⟨s2.1.symm.trans s1.1, s2.2.symm.trans s1.2⟩⟩
    have := (fb_ct_pos (p := fun z => cor σ z && sm σ r q z)).mpr ⟨p, hpq, hs⟩
    have h0 := hb.1.2
    unfold hd at h0
    omega)
  unfold dv hd
  unfold hd at h1 h2 h3 h4
  omega
