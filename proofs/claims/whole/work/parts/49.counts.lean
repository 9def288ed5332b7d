/-! counting -/
theorem ct_t {p : Nat → Bool} {n : Nat} (h : p n = true) : fb_ct p (n + 1) = fb_ct p n + 1 := by rw [fb_ct_succ, if_pos h]
theorem ct_f {p : Nat → Bool} {n : Nat} (h : ¬ p n = true) : fb_ct p (n + 1) = fb_ct p n := by rw [fb_ct_succ, if_neg h]; rfl
theorem nI_a0 (n : Nat) : nI n + (0 : Int32) = nI n := by rw [li0, nI_add]; rfl
theorem bits10 : ∀ m, m < 1024 → fJ6_bitCount_0f7a4 (nI m) = some (nI (fb_ct (fun k => m.testBit k) 10)) := by decide +kernel
theorem mask_ct {c : Nat → Bool} {n : Nat} (h10 : n ≤ 10) : fb_ct (fun k => (mask c n).testBit k) 10 = fb_ct c n := by
  have h1 : fb_ct (fun k => (mask c n).testBit k) (n + (10 - n)) = fb_ct (fun k => (mask c n).testBit k) n + fb_ct (fun k => (mask c n).testBit (n + k)) (10 - n) := fb_ct_split (fun k => (mask c n).testBit k) n (10 - n)
  rw [show n + (10 - n) = 10 from by omega] at h1
  have h2 : fb_ct (fun k => (mask c n).testBit k) n = fb_ct c n := fb_ct_cong (fun k hk => by rw [mask_bit, decide_eq_true hk]; rfl)
  have h3 : fb_ct (fun k => (mask c n).testBit (n + k)) (10 - n) = 0 := fb_ct_zero.mpr (fun k hk => by
    show (mask c n).testBit (n + k) = false
    rw [mask_bit, decide_eq_false (by omega)]; rfl)
  omega
theorem mask_1024 (c : Nat → Bool) {n : Nat} (h10 : n ≤ 10) : mask c n < 1024 := by
  have h1 := mask_lt c n
  have h2 : 2 ^ n ≤ 2 ^ 10 := Nat.pow_le_pow_right (by omega) h10
  omega
/-- how many nodes are faulty -/
def fy (σ : St) (n : Nat) : Nat := fb_ct (fun p => !cor σ p) n
theorem fy_le (σ : St) (n : Nat) : fy σ n ≤ n := fb_ct_le _ n
theorem X_faulty {σ : St} {n N : Nat} (hN : 2000 ≤ N) (hn : gI σ 0 = nI n) (h10 : n ≤ 10) : fX2_faultyNodes N σ = some (nI (fy σ n), σ) := by
  unfold fX2_faultyNodes fy
  have h := fb_ct_not (cor σ) n
  have h2 := fb_ct_le (cor σ) n
  rw [X_correctSet hN hn h10, bd2_e, bits10 _ (mask_1024 _ h10), bd0_e, mask_ct h10, hn, pk_sub h2, show n - fb_ct (cor σ) n = fb_ct (fun k => !cor σ k) n from by omega]
theorem M_faulty_loop {σ τ : St} {n t g rule len N : Nat} {q : St → Int32 → Option (Int32 × St)} (R : RP σ τ n t g rule len) : ∀ (k i fuel : Nat), i + k = n → k < fuel → fX3_faulty_4 N q fuel τ (nI (fy σ i)) (nI i) = q τ (nI (fy σ n)) := by
  have h10 := R.n10
  intro k
  induction k with
  | zero =>
    intro i fuel hi hf
    obtain ⟨a, rfl⟩ : ∃ k, fuel = k + 1 := ⟨fuel - 1, by omega⟩
    have hi : i = n := by omega
    subst hi
    show fX3_faulty_4b N q _ τ _ (nI i) = _
    unfold fX3_faulty_4b
    rw [R.mn, if_pos (nI_le (Nat.le_refl _) (by omega))]
  | succ k ih =>
    intro i fuel hi hf
    obtain ⟨a, rfl⟩ : ∃ k, fuel = k + 1 := ⟨fuel - 1, by omega⟩
    rw [← ih (i + 1) a (by omega) (by omega)]
    show fX3_faulty_4b N q (fX3_faulty_4 N q a) τ _ (nI i) = _
    unfold fX3_faulty_4b
    rw [R.mn, if_neg (nI_nge (by omega) (by omega)), M_isCorrect R (by omega), bd2_e, lt1_e, lt1_e, lt1_e, lt1_e, nI_1, nI_1, nI_a0]
    by_cases hc : cor σ i = true
    · rw [if_pos hc, if_neg z10, show fy σ (i + 1) = fy σ i from ct_f (by rw [hc]; decide)]
    · rw [if_neg hc, if_pos rfl, show fy σ (i + 1) = fy σ i + 1 from ct_t (by cases h : cor σ i <;> simp_all)]
theorem M_faulty {σ τ : St} {n t g rule len N : Nat} (hN : 2000 ≤ N) (R : RP σ τ n t g rule len) : fX3_faulty N τ = some (nI (fy σ n), τ) := by
  have h10 := R.n10
  unfold fX3_faulty
  exact M_faulty_loop (q := fun σ24 x23 => some (x23, σ24)) R n 0 N (by omega) (by omega)
/-- links -/
def lkT (σ : St) (mx p q : Nat) : Bool := decide (p ≠ q ∧ (0 : Int32) ≤ gF σ 1 (10 * p + q) ∧ gF σ 1 (10 * p + q) ≤ nI mx)
def lk (σ : St) (mx n p : Nat) : Nat := fb_sm (fun p => fb_ct (lkT σ mx p) n) p
theorem X_links_in {σ : St} {n N mx p : Nat} {q54 : St → Int32 → Int32 → Int32 → Option (Int32 × St)} (hn : gI σ 0 = nI n) (h10 : n ≤ 10) (hp : p < n) (s : Nat) : ∀ (k i fuel : Nat), i + k = n → k < fuel → fX2_linksWithDelay_15 N q54 fuel σ (nI mx) (nI (s + fb_ct (lkT σ mx p) i)) (nI p) (nI i) = q54 σ (nI mx) (nI (s + fb_ct (lkT σ mx p) n)) (nI p) := by
  intro k
  induction k with
  | zero =>
    intro i fuel hi hf
    obtain ⟨a, rfl⟩ : ∃ k, fuel = k + 1 := ⟨fuel - 1, by omega⟩
    have hi : i = n := by omega
    subst hi
    show fX2_linksWithDelay_15b N q54 _ σ _ _ _ (nI i) = _
    unfold fX2_linksWithDelay_15b
    rw [hn, if_pos (nI_le (Nat.le_refl _) (by omega))]
  | succ k ih =>
    intro i fuel hi hf
    obtain ⟨a, rfl⟩ : ∃ k, fuel = k + 1 := ⟨fuel - 1, by omega⟩
    rw [← ih (i + 1) a (by omega) (by omega)]
    show fX2_linksWithDelay_15b N q54 (fX2_linksWithDelay_15 N q54 a) σ _ _ _ (nI i) = _
    unfold fX2_linksWithDelay_15b
    rw [hn, if_neg (nI_nge (by omega) (by omega))]
    by_cases hpi : p = i
    · subst hpi
      rw [if_pos rfl, lt1_e, nI_1, ct_f (p := lkT σ mx p) (n := p) (by unfold lkT; simp)]
    · rw [if_neg (nI_ne hpi (by omega) (by omega)), X_delayOf (by omega) (by omega), bd2_e, isW, bd0_e, lt1_e, lt1_e, lt1_e, nI_1, nI_1]
      by_cases h : (0 : Int32) ≤ gF σ 1 (10 * p + i) ∧ gF σ 1 (10 * p + i) ≤ nI mx
      · rw [if_pos h, if_neg z10, ct_t (p := lkT σ mx p) (n := i) (decide_eq_true ⟨hpi, h⟩), Nat.add_assoc]
      · rw [if_neg h, if_pos rfl, ct_f (p := lkT σ mx p) (n := i) (by unfold lkT; exact fun z => h (of_decide_eq_true z).2)]
theorem X_links_out {σ : St} {n N mx : Nat} {q60 : St → Int32 → Option (Int32 × St)} (hN : 2000 ≤ N) (hn : gI σ 0 = nI n) (h10 : n ≤ 10) : ∀ (k i fuel : Nat), i + k = n → k < fuel → fX2_linksWithDelay_4 N q60 fuel σ (nI mx) (nI (lk σ mx n i)) (nI i) = q60 σ (nI (lk σ mx n n)) := by
  intro k
  induction k with
  | zero =>
    intro i fuel hi hf
    obtain ⟨a, rfl⟩ : ∃ k, fuel = k + 1 := ⟨fuel - 1, by omega⟩
    have hi : i = n := by omega
    subst hi
    show fX2_linksWithDelay_4b N q60 _ σ _ _ (nI i) = _
    unfold fX2_linksWithDelay_4b
    rw [hn, if_pos (nI_le (Nat.le_refl _) (by omega))]
  | succ k ih =>
    intro i fuel hi hf
    obtain ⟨a, rfl⟩ : ∃ k, fuel = k + 1 := ⟨fuel - 1, by omega⟩
    rw [← ih (i + 1) a (by omega) (by omega)]
    show fX2_linksWithDelay_4b N q60 (fX2_linksWithDelay_4 N q60 a) σ _ _ (nI i) = _
    unfold fX2_linksWithDelay_4b
    rw [hn, if_neg (nI_nge (by omega) (by omega))]
    refine Eq.trans (X_links_in (q54 := fun σ42 x39 x40 x41 => lt1 (x41 + (1 : Int32)) fun x44 => fX2_linksWithDelay_4 N q60 a σ42 x39 x40 x44) hn h10 (show i < n by omega) (lk σ mx n i) n 0 N (by omega) (by omega)) ?_
    rw [lt1_e, nI_1]
    rfl
theorem X_links {σ : St} {n N mx : Nat} (hN : 2000 ≤ N) (hn : gI σ 0 = nI n) (h10 : n ≤ 10) : fX2_linksWithDelay N σ (nI mx) = some (nI (lk σ mx n n), σ) := by
  unfold fX2_linksWithDelay
  exact X_links_out (q60 := fun σ47 x46 => some (x46, σ47)) hN hn h10 n 0 N (by omega) (by omega)
theorem lkT_3 {σ τ : St} {n t g rule len p q : Nat} (R : RP σ τ n t g rule len) (hk : 10 * p + q < 100) (hpq : p ≠ q) : lkT σ 3 p q = decide (¬ gF τ 1 (10 * p + q) < 0) := by
  unfold lkT
  rw [R.md _ hk]
  rcases R.d3 _ hk with h | ⟨d, hd, h⟩
  · rw [h]
    have e1 : ¬ (p ≠ q ∧ (0 : Int32) ≤ -1 ∧ (-1 : Int32) ≤ nI 3) := fun z => absurd z.2.1 (by decide)
    have e2 : ¬ ¬ (-1 : Int32) < 0 := by decide
    rw [decide_eq_false e1, decide_eq_false e2]
  · rw [h]
    have e1 : p ≠ q ∧ (0 : Int32) ≤ nI d ∧ nI d ≤ nI 3 := ⟨hpq, nI_pos' (by omega), nI_le hd (by omega)⟩
    have e2 : ¬ nI d < 0 := nI_pos (by omega)
    rw [decide_eq_true e1, decide_eq_true e2]
theorem M_links_in {σ τ : St} {n t g rule len N p : Nat} {q55 : St → Int32 → Int32 → Option (Int32 × St)} (R : RP σ τ n t g rule len) (hp : p < n) (s : Nat) : ∀ (k i fuel : Nat), i + k = n → k < fuel → fX3_links_14 N q55 fuel τ (nI (s + fb_ct (lkT σ 3 p) i)) (nI p) (nI i) = q55 τ (nI (s + fb_ct (lkT σ 3 p) n)) (nI p) := by
  have h10 := R.n10
  intro k
  induction k with
  | zero =>
    intro i fuel hi hf
    obtain ⟨a, rfl⟩ : ∃ k, fuel = k + 1 := ⟨fuel - 1, by omega⟩
    have hi : i = n := by omega
    subst hi
    show fX3_links_14b N q55 _ τ _ _ (nI i) = _
    unfold fX3_links_14b
    rw [R.mn, if_pos (nI_le (Nat.le_refl _) (by omega))]
  | succ k ih =>
    intro i fuel hi hf
    obtain ⟨a, rfl⟩ : ∃ k, fuel = k + 1 := ⟨fuel - 1, by omega⟩
    rw [← ih (i + 1) a (by omega) (by omega)]
    show fX3_links_14b N q55 (fX3_links_14 N q55 a) τ _ _ (nI i) = _
    unfold fX3_links_14b
    rw [R.mn, if_neg (nI_nge (by omega) (by omega))]
    by_cases hpi : p = i
    · subst hpi
      rw [if_pos rfl, lt1_e, lt1_e, nI_1, nI_a0, ct_f (p := lkT σ 3 p) (n := p) (by unfold lkT; simp)]
    · have e := lkT_3 R (p := p) (q := i) (by omega) hpi
      rw [if_neg (nI_ne hpi (by omega) (by omega)), ix01, if_neg (nI_in (by omega) (by omega)), nI_clamp (by omega), lt1_e, lt1_e, lt1_e, lt1_e, nI_1, nI_1, nI_a0]
      by_cases h : gF τ 1 (10 * p + i) < 0
      · rw [if_pos h, ct_f (p := lkT σ 3 p) (n := i) (by rw [e]; exact fun z => (of_decide_eq_true z) h)]
      · rw [if_neg h, ct_t (p := lkT σ 3 p) (n := i) (by rw [e]; exact decide_eq_true h), Nat.add_assoc]
theorem M_links_out {σ τ : St} {n t g rule len N : Nat} {q61 : St → Int32 → Option (Int32 × St)} (hN : 2000 ≤ N) (R : RP σ τ n t g rule len) : ∀ (k i fuel : Nat), i + k = n → k < fuel → fX3_links_4 N q61 fuel τ (nI (lk σ 3 n i)) (nI i) = q61 τ (nI (lk σ 3 n n)) := by
  have h10 := R.n10
  intro k
  induction k with
  | zero =>
    intro i fuel hi hf
    obtain ⟨a, rfl⟩ : ∃ k, fuel = k + 1 := ⟨fuel - 1, by omega⟩
    have hi : i = n := by omega
    subst hi
    show fX3_links_4b N q61 _ τ _ (nI i) = _
    unfold fX3_links_4b
    rw [R.mn, if_pos (nI_le (Nat.le_refl _) (by omega))]
  | succ k ih =>
    intro i fuel hi hf
    obtain ⟨a, rfl⟩ : ∃ k, fuel = k + 1 := ⟨fuel - 1, by omega⟩
    rw [← ih (i + 1) a (by omega) (by omega)]
    show fX3_links_4b N q61 (fX3_links_4 N q61 a) τ _ (nI i) = _
    unfold fX3_links_4b
    rw [R.mn, if_neg (nI_nge (by omega) (by omega))]
    refine Eq.trans (M_links_in (q55 := fun σ39 x37 x38 => lt1 (x38 + (1 : Int32)) fun x41 => fX3_links_4 N q61 a σ39 x37 x41) R (show i < n by omega) (lk σ 3 n i) n 0 N (by omega) (by omega)) ?_
    rw [lt1_e, nI_1]
    rfl
theorem M_links {σ τ : St} {n t g rule len N : Nat} (hN : 2000 ≤ N) (R : RP σ τ n t g rule len) : fX3_links N τ = some (nI (lk σ 3 n n), τ) := by
  have h10 := R.n10
  unfold fX3_links
  exact M_links_out (q61 := fun σ44 x43 => some (x43, σ44)) hN R n 0 N (by omega) (by omega)
/-- two nodes have the same value -/
def sm (σ : St) (r p q : Nat) : Bool := decide (val σ r p 0 = val σ r q 0 ∧ val σ r p 1 = val σ r q 1)
theorem sm_comm (σ : St) (r p q : Nat) : sm σ r p q = sm σ r q p := by
  unfold sm
  have e : (val σ r p 0 = val σ r q 0 ∧ val σ r p 1 = val σ r q 1) ↔ (val σ r q 0 = val σ r p 0 ∧ val σ r q 1 = val σ r p 1) := ⟨fun h => ⟨h.1.symm, h.2.symm⟩, fun h => ⟨h.1.symm, h.2.symm⟩⟩
  exact decide_eq_decide.mpr e
theorem X_same {σ : St} {n r p q : Nat} (hn : gI σ 0 = nI n) (hr : gI σ 3 = nI r) (h60 : r ≤ 60) (h10 : n ≤ 10) (hp : p < n) (hq : q < n) : fX2_haveSameValue σ (nI p) (nI q) = some (if (cor σ p && cor σ q && sm σ r p q) = true then 1 else 0, σ) := by
  unfold fX2_haveSameValue
  rw [X_isCorrect hn hp h10, bd2_e, X_isCorrect hn hq h10, bd2_e, hr]
  by_cases h1 : cor σ p = true
  · rw [if_pos h1, if_neg z10]
    by_cases h2 : cor σ q = true
    · rw [if_pos h2, if_neg z10, X_end _ (by omega), bd2_e, hr, X_end _ (by omega), bd2_e, sd_0, h1, h2, hr, X_end _ (by omega), bd2_e, hr, X_end _ (by omega), bd2_e, sd_1]
      by_cases h3 : val σ r p 0 = val σ r q 0
      · rw [if_pos h3]
        by_cases h4 : val σ r p 1 = val σ r q 1
        · rw [if_pos h4, if_pos (by unfold sm; rw [decide_eq_true ⟨h3, h4⟩]; rfl)]
        · rw [if_neg h4, if_neg (by unfold sm; rw [decide_eq_false (fun z => h4 z.2)]; decide)]
      · rw [if_neg h3, if_neg (by unfold sm; rw [decide_eq_false (fun z => h3 z.1)]; decide)]
    · rw [if_neg h2, if_pos rfl, if_neg (by simp [h2])]
  · rw [if_neg h1, if_pos rfl, if_neg (by simp [h1])]
theorem M_same {σ τ : St} {n r p q : Nat} (V : RV σ τ n r) (h10 : n ≤ 10) (hp : p < n) (hq : q < n) (cp : cor σ p = true) (cq : cor σ q = true) : fX3_areSame τ (nI p) (nI q) = some (if sm σ r p q = true then 1 else 0, τ) := by
  have h60 := V.2.2.1
  have v := fun j s (hj : j < n) (hs : s < 2) (hc : cor σ j = true) => (V.2.2.2 r j s (Nat.le_refl _) hj hs (cor_t.mp hc)).1
  unfold fX3_areSame
  have e0 : ∀ j, j < n → cor σ j = true → fX3_end τ (nI j) (nI r) 0 = some (val σ r j 0, τ) := fun j hj hc => by
    rw [← v j 0 hj (by omega) hc]; exact M_end (s := 0) (by omega)
  have e1 : ∀ j, j < n → cor σ j = true → fX3_end τ (nI j) (nI r) 1 = some (val σ r j 1, τ) := fun j hj hc => by
    rw [← v j 1 hj (by omega) hc]; exact M_end (s := 1) (by omega)
  rw [V.2.1, e0 p hp cp, bd2_e, V.2.1, e0 q hq cq, bd2_e, V.2.1, e1 p hp cp, bd2_e, V.2.1, e1 q hq cq, bd2_e]
  by_cases h3 : val σ r p 0 = val σ r q 0
  · rw [if_pos h3]
    by_cases h4 : val σ r p 1 = val σ r q 1
    · rw [if_pos h4, if_pos (show sm σ r p q = true from decide_eq_true ⟨h3, h4⟩)]
    · rw [if_neg h4, if_neg (show ¬ sm σ r p q = true from fun z => h4 (of_decide_eq_true z).2)]
  · rw [if_neg h3, if_neg (show ¬ sm σ r p q = true from fun z => h3 (of_decide_eq_true z).1)]
/-- the correct nodes below a bound that hold the value of p -/
def hd (σ : St) (r p b : Nat) : Nat := fb_ct (fun q => cor σ q && sm σ r p q) b
theorem hd_le (σ : St) (r p b : Nat) : hd σ r p b ≤ b := fb_ct_le _ b
theorem M_below_loop {σ τ : St} {n t g rule len N r p b : Nat} {q44 : St → Int32 → Option (Int32 × St)} (R : RP σ τ n t g rule len) (V : RV σ τ n r) (hp : p < n) (cp : cor σ p = true) (hb : b ≤ n) : ∀ (k i fuel : Nat), i + k = b → k < fuel → fX3_sameBelow_5 N q44 fuel τ (nI p) (nI b) (nI (hd σ r p i)) (nI i) = q44 τ (nI (hd σ r p b)) := by
  have h10 := R.n10
  intro k
  induction k with
  | zero =>
    intro i fuel hi hf
    obtain ⟨a, rfl⟩ : ∃ k, fuel = k + 1 := ⟨fuel - 1, by omega⟩
    have hi : i = b := by omega
    subst hi
    show fX3_sameBelow_5b N q44 _ τ _ (nI i) _ (nI i) = _
    unfold fX3_sameBelow_5b
    rw [if_pos (nI_le (Nat.le_refl _) (by omega))]
  | succ k ih =>
    intro i fuel hi hf
    obtain ⟨a, rfl⟩ : ∃ k, fuel = k + 1 := ⟨fuel - 1, by omega⟩
    rw [← ih (i + 1) a (by omega) (by omega)]
    show fX3_sameBelow_5b N q44 (fX3_sameBelow_5 N q44 a) τ _ (nI b) _ (nI i) = _
    unfold fX3_sameBelow_5b
    rw [if_neg (nI_nge (by omega) (by omega)), M_isCorrect R (by omega), bd2_e, lt1_e, lt1_e, nI_1, nI_a0]
    by_cases hc : cor σ i = true
    · rw [if_pos hc, if_neg z10, M_same V h10 hp (by omega) cp hc, bd2_e, lt1_e, lt1_e, nI_1, lt1_e, lt1_e]
      by_cases hs : sm σ r p i = true
      · rw [if_pos hs, if_neg z10, show hd σ r p (i + 1) = hd σ r p i + 1 from ct_t (p := fun q => cor σ q && sm σ r p q) (by simp [hc, hs])]
      · rw [if_neg hs, if_pos rfl, show hd σ r p (i + 1) = hd σ r p i from ct_f (p := fun q => cor σ q && sm σ r p q) (by simp [hs])]
    · rw [if_neg hc, if_pos rfl, show hd σ r p (i + 1) = hd σ r p i from ct_f (p := fun q => cor σ q && sm σ r p q) (by simp [hc])]
theorem M_below {σ τ : St} {n t g rule len N r p b : Nat} (hN : 2000 ≤ N) (R : RP σ τ n t g rule len) (V : RV σ τ n r) (hp : p < n) (cp : cor σ p = true) (hb : b ≤ n) : fX3_sameBelow N τ (nI p) (nI b) = some (nI (hd σ r p b), τ) := by
  have h10 := R.n10
  unfold fX3_sameBelow
  exact M_below_loop (q44 := fun σ38 x37 => some (x37, σ38)) R V hp cp hb b 0 N (by omega) (by omega)
theorem X_first_loop {σ : St} {n N r p : Nat} (hn : gI σ 0 = nI n) (hr : gI σ 3 = nI r) (h60 : r ≤ 60) (h10 : n ≤ 10) (hp : p < n) (cp : cor σ p = true) : ∀ (k i fuel : Nat), i + k = p → k < fuel → hd σ r p i = 0 → fX2_isFirstHolder_2 N (fun σ18 => some ((1 : Int32), σ18)) fuel σ (nI p) (nI i) = some (if hd σ r p p = 0 then 1 else 0, σ) := by
  intro k
  induction k with
  | zero =>
    intro i fuel hi hf h0
    obtain ⟨a, rfl⟩ : ∃ k, fuel = k + 1 := ⟨fuel - 1, by omega⟩
    have hi : i = p := by omega
    subst hi
    show fX2_isFirstHolder_2b N _ _ σ (nI i) (nI i) = _
    unfold fX2_isFirstHolder_2b
    rw [if_pos (nI_le (Nat.le_refl _) (by omega)), if_pos h0]
  | succ k ih =>
    intro i fuel hi hf h0
    obtain ⟨a, rfl⟩ : ∃ k, fuel = k + 1 := ⟨fuel - 1, by omega⟩
    show fX2_isFirstHolder_2b N _ (fX2_isFirstHolder_2 N _ a) σ (nI p) (nI i) = _
    unfold fX2_isFirstHolder_2b
    rw [if_neg (nI_nge (by omega) (by omega)), X_same hn hr h60 h10 (by omega) hp, bd2_e, lt1_e, nI_1, cp, Bool.and_true, sm_comm σ r i p]
    by_cases h : (cor σ i && sm σ r p i) = true
    · rw [if_pos h, if_neg z10]
      have e1 : hd σ r p (i + 1) = hd σ r p i + 1 := ct_t (p := fun q => cor σ q && sm σ r p q) h
      have e2 : hd σ r p (i + 1) ≤ hd σ r p p := fb_ct_mono _ (by omega)
      rw [if_neg (by omega)]
    · rw [if_neg h, if_pos rfl]
      exact ih (i + 1) a (by omega) (by omega) (by rw [show hd σ r p (i + 1) = hd σ r p i from ct_f (p := fun q => cor σ q && sm σ r p q) h]; exact h0)
theorem X_first {σ : St} {n N r p : Nat} (hN : 2000 ≤ N) (hn : gI σ 0 = nI n) (hr : gI σ 3 = nI r) (h60 : r ≤ 60) (h10 : n ≤ 10) (hp : p < n) (cp : cor σ p = true) : fX2_isFirstHolder N σ (nI p) = some (if hd σ r p p = 0 then 1 else 0, σ) := by
  unfold fX2_isFirstHolder
  exact X_first_loop hn hr h60 h10 hp cp p 0 N (by omega) (by omega) rfl
/-- different values -/
def dv (σ : St) (r n : Nat) : Nat := fb_ct (fun p => cor σ p && decide (hd σ r p p = 0)) n
theorem X_diff_loop {σ : St} {n N r : Nat} {q37 : St → Int32 → Option (Int32 × St)} (hN : 2000 ≤ N) (hn : gI σ 0 = nI n) (hr : gI σ 3 = nI r) (h60 : r ≤ 60) (h10 : n ≤ 10) : ∀ (k i fuel : Nat), i + k = n → k < fuel → fX2_differentValues_4 N q37 fuel σ (nI (dv σ r i)) (nI i) = q37 σ (nI (dv σ r n)) := by
  intro k
  induction k with
  | zero =>
    intro i fuel hi hf
    obtain ⟨a, rfl⟩ : ∃ k, fuel = k + 1 := ⟨fuel - 1, by omega⟩
    have hi : i = n := by omega
    subst hi
    show fX2_differentValues_4b N q37 _ σ _ (nI i) = _
    unfold fX2_differentValues_4b
    rw [hn, if_pos (nI_le (Nat.le_refl _) (by omega))]
  | succ k ih =>
    intro i fuel hi hf
    obtain ⟨a, rfl⟩ : ∃ k, fuel = k + 1 := ⟨fuel - 1, by omega⟩
    rw [← ih (i + 1) a (by omega) (by omega)]
    show fX2_differentValues_4b N q37 (fX2_differentValues_4 N q37 a) σ _ (nI i) = _
    unfold fX2_differentValues_4b
    rw [hn, if_neg (nI_nge (by omega) (by omega)), X_isCorrect hn (by omega) h10, bd2_e, lt1_e, nI_1]
    by_cases hc : cor σ i = true
    · rw [if_pos hc, if_neg z10, X_first hN hn hr h60 h10 (by omega) hc, bd2_e, lt1_e, lt1_e, lt1_e, nI_1]
      by_cases h0 : hd σ r i i = 0
      · rw [if_pos h0, if_neg z10, show dv σ r (i + 1) = dv σ r i + 1 from ct_t (p := fun p => cor σ p && decide (hd σ r p p = 0)) (by simp [hc, h0])]
      · rw [if_neg h0, if_pos rfl, show dv σ r (i + 1) = dv σ r i from ct_f (p := fun p => cor σ p && decide (hd σ r p p = 0)) (by simp [h0])]
    · rw [if_neg hc, if_pos rfl, show dv σ r (i + 1) = dv σ r i from ct_f (p := fun p => cor σ p && decide (hd σ r p p = 0)) (by simp [hc])]
theorem X_diff {σ : St} {n N r : Nat} (hN : 2000 ≤ N) (hn : gI σ 0 = nI n) (hr : gI σ 3 = nI r) (h60 : r ≤ 60) (h10 : n ≤ 10) : fX2_differentValues N σ = some (nI (dv σ r n), σ) := by
  unfold fX2_differentValues
  exact X_diff_loop (q37 := fun σ30 x29 => some (x29, σ30)) hN hn hr h60 h10 n 0 N (by omega) (by omega)
theorem M_diff_loop {σ τ : St} {n t g rule len N r : Nat} {q43 : St → Int32 → Int32 → Option (Int32 × St)} (hN : 2000 ≤ N) (R : RP σ τ n t g rule len) (V : RV σ τ n r) (x : Int32) : ∀ (k i fuel : Nat), i + k = n → k < fuel → fX3_count_4 N q43 fuel τ x (nI (dv σ r i)) (nI i) = q43 τ x (nI (dv σ r n)) := by
  have h10 := R.n10
  intro k
  induction k with
  | zero =>
    intro i fuel hi hf
    obtain ⟨a, rfl⟩ : ∃ k, fuel = k + 1 := ⟨fuel - 1, by omega⟩
    have hi : i = n := by omega
    subst hi
    show fX3_count_4b N q43 _ τ _ _ (nI i) = _
    unfold fX3_count_4b
    rw [R.mn, if_pos (nI_le (Nat.le_refl _) (by omega))]
  | succ k ih =>
    intro i fuel hi hf
    obtain ⟨a, rfl⟩ : ∃ k, fuel = k + 1 := ⟨fuel - 1, by omega⟩
    rw [← ih (i + 1) a (by omega) (by omega)]
    show fX3_count_4b N q43 (fX3_count_4 N q43 a) τ _ _ (nI i) = _
    unfold fX3_count_4b
    rw [R.mn, if_neg (nI_nge (by omega) (by omega)), M_isCorrect R (by omega), bd2_e, lt1_e, lt1_e, nI_1, nI_a0]
    by_cases hc : cor σ i = true
    · rw [if_pos hc, if_neg z10, M_below hN R V (by omega) hc (by omega), bd2_e, lt1_e, lt1_e, nI_1, lt1_e, lt1_e]
      by_cases h0 : hd σ r i i = 0
      · rw [h0, if_pos (show nI 0 = 0 from rfl), show dv σ r (i + 1) = dv σ r i + 1 from ct_t (p := fun p => cor σ p && decide (hd σ r p p = 0)) (by simp [hc, h0])]
      · have hle := hd_le σ r i i
        rw [if_neg (show ¬ nI (hd σ r i i) = 0 from cR_ne 0 h0 (by omega) (by omega)), show dv σ r (i + 1) = dv σ r i from ct_f (p := fun p => cor σ p && decide (hd σ r p p = 0)) (by simp [h0])]
    · rw [if_neg hc, if_pos rfl, show dv σ r (i + 1) = dv σ r i from ct_f (p := fun p => cor σ p && decide (hd σ r p p = 0)) (by simp [hc])]
theorem ok_count {σ τ : St} {N : Nat} (hN : 2000 ≤ N) (H : Rl σ τ) (a : Int32) : Ok (fX2_count N σ a) (fX3_count N τ a) := by
  have H0 := H
  obtain ⟨n, t, g, rule, len, r, R, V⟩ := H
  have h10 := R.n10
  have h60 := V.2.2.1
  obtain ⟨b1, b2, b3, b4, b4', b5, b6, b7, b8⟩ := R.B
  have eM : fX3_count N τ a = _ := M_diff_loop (q43 := fun σ37 x35 x36 =>
   if x35 = (0 : Int32) then (some ((gI σ37 0), σ37))
    else if x35 = (1 : Int32) then (some ((gI σ37 1), σ37))
    else if x35 = (2 : Int32) then (some (((gJ σ37 0).toInt32), σ37))
    else if x35 = (3 : Int32) then (some ((gI σ37 3), σ37))
    else if x35 = (4 : Int32) then (bd2 (fX3_faulty N σ37) fun r56 σ55 => some (r56, σ55))
    else if x35 = (5 : Int32) then (some ((gI σ37 2), σ37))
    else if x35 = (6 : Int32) then (bd2 (fX3_links N σ37) fun r65 σ64 => some (r65, σ64))
    else if x35 = (7 : Int32) then (some (x36, σ37))
    else (some ((-1002 : Int32), σ37))) hN R V a n 0 N (by omega) (by omega)
  rw [eM]
  unfold fX2_count
  by_cases c0 : a = 0
  · rw [if_pos c0, if_pos c0, R.xn, R.mn]; exact Ok.of rfl rfl H0
  rw [if_neg c0, if_neg c0]
  by_cases c1 : a = 1
  · rw [if_pos c1, if_pos c1, R.xt, R.mt]; exact Ok.of rfl rfl H0
  rw [if_neg c1, if_neg c1]
  by_cases c2 : a = 2
  · rw [if_pos c2, if_pos c2, b5, b6, lN_i]; exact Ok.of rfl rfl H0
  rw [if_neg c2, if_neg c2]
  by_cases c3 : a = 3
  · rw [if_pos c3, if_pos c3, V.1, V.2.1]; exact Ok.of rfl rfl H0
  rw [if_neg c3, if_neg c3]
  by_cases c4 : a = 4
  · rw [if_pos c4, if_pos c4, X_faulty hN R.xn h10, M_faulty hN R, bd2_e, bd2_e]; exact Ok.of rfl rfl H0
  rw [if_neg c4, if_neg c4]
  by_cases c5 : a = 5
  · rw [if_pos c5, if_pos c5, R.xr, R.mr]; exact Ok.of rfl rfl H0
  rw [if_neg c5, if_neg c5]
  by_cases c6 : a = 6
  · rw [if_pos c6, if_pos c6, show fX2_linksWithDelay N σ (3 : Int32) = _ from X_links (mx := 3) hN R.xn h10, M_links hN R, bd2_e, bd2_e]; exact Ok.of rfl rfl H0
  rw [if_neg c6, if_neg c6]
  by_cases c7 : a = 7
  · rw [if_pos c7, if_pos c7, X_diff hN R.xn V.1 h60 h10, bd2_e]; exact Ok.of rfl rfl H0
  rw [if_neg c7, if_neg c7]
  exact Ok.of rfl rfl H0
