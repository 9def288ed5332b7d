/-! the most frequent value; the guarantee; the hull; who is outside -/
theorem mask0 {σ : St} {n : Nat} (h10 : n ≤ 10) : nI (mask (cor σ) n) = 0 ↔ ∀ p, p < n → cor σ p = false := by
  have hm := mask_1024 (cor σ) h10
  constructor
  · intro h p hp
    have h0 : mask (cor σ) n = 0 := nI_j (b := 0) (by omega) (by omega) h
    have hb := mask_bit (cor σ) p n
    rw [h0, Nat.zero_testBit, decide_eq_true hp] at hb
    simpa using hb.symm
  · intro h
    have h1 : fb_ct (cor σ) n = 0 := fb_ct_zero.mpr h
    have h2 : mask (cor σ) n = 0 := by
      refine Nat.eq_of_testBit_eq (fun p => ?_)
      rw [mask_bit, Nat.zero_testBit]
      by_cases hp : p < n
      · rw [h p hp, Bool.and_false]
      · rw [decide_eq_false hp, Bool.false_and]
    rw [h2]; rfl
theorem fy_all {σ : St} {n : Nat} : fy σ n = n ↔ ∀ p, p < n → cor σ p = false := by
  unfold fy
  rw [fb_ct_all]
  constructor
  · intro h p hp
    have := h p hp
    cases hc : cor σ p
    · rfl
    · rw [hc] at this; cases this
  · intro h p hp
    rw [h p hp]; rfl
theorem X_holders_loop {σ : St} {n N r p : Nat} {q30 : St → Int32 → Option (Int32 × St)} (hn : gI σ 0 = nI n) (hr : gI σ 3 = nI r) (h60 : r ≤ 60) (h10 : n ≤ 10) (hp : p < n) (cp : cor σ p = true) : ∀ (k i fuel : Nat), i + k = n → k < fuel → fX2_holdersOfValueOf_4 N q30 fuel σ (nI p) (nI (hd σ r p i)) (nI i) = q30 σ (nI (hd σ r p n)) := by
  intro k
  induction k with
  | zero =>
    intro i fuel hi hf
    obtain ⟨a, rfl⟩ : ∃ k, fuel = k + 1 := ⟨fuel - 1, by omega⟩
    have hi : i = n := by omega
    subst hi
    show fX2_holdersOfValueOf_4b N q30 _ σ _ _ (nI i) = _
    unfold fX2_holdersOfValueOf_4b
    rw [hn, if_pos (nI_le (Nat.le_refl _) (by omega))]
  | succ k ih =>
    intro i fuel hi hf
    obtain ⟨a, rfl⟩ : ∃ k, fuel = k + 1 := ⟨fuel - 1, by omega⟩
    rw [← ih (i + 1) a (by omega) (by omega)]
    show fX2_holdersOfValueOf_4b N q30 (fX2_holdersOfValueOf_4 N q30 a) σ _ _ (nI i) = _
    unfold fX2_holdersOfValueOf_4b
    rw [hn, if_neg (nI_nge (by omega) (by omega)), X_same hn hr h60 h10 hp (by omega), bd2_e, lt1_e, lt1_e, lt1_e, nI_1, nI_1, cp, Bool.true_and]
    by_cases h : (cor σ i && sm σ r p i) = true
    · rw [if_pos h, if_neg z10, show hd σ r p (i + 1) = hd σ r p i + 1 from ct_t (p := fun q => cor σ q && sm σ r p q) h]
    · rw [if_neg h, if_pos rfl, show hd σ r p (i + 1) = hd σ r p i from ct_f (p := fun q => cor σ q && sm σ r p q) h]
theorem X_holders {σ : St} {n N r p : Nat} (hN : 2000 ≤ N) (hn : gI σ 0 = nI n) (hr : gI σ 3 = nI r) (h60 : r ≤ 60) (h10 : n ≤ 10) (hp : p < n) (cp : cor σ p = true) : fX2_holdersOfValueOf N σ (nI p) = some (nI (hd σ r p n), σ) := by
  unfold fX2_holdersOfValueOf
  exact X_holders_loop (q30 := fun σ24 x23 => some (x23, σ24)) hn hr h60 h10 hp cp n 0 N (by omega) (by omega)
theorem hd_pos {σ : St} {n r p : Nat} (hp : p < n) (cp : cor σ p = true) : 0 < hd σ r p n := by
  unfold hd
  rw [fb_ct_pos]
  exact ⟨p, hp, by rw [cp]; unfold sm; simp⟩
theorem M_53 {N : Nat} {q21 : St → Int32 → Int32 → Int32 → Int32 → Option (Int32 × St)} (τ : St) (x b c : Int32) (i : Nat) (h : Int32) : fX3_mostFrequent_53 N q21 τ x b c (nI i) h = (if h ≤ c then q21 τ x b c (nI (i + 1)) else q21 τ x (nI i) h (nI (i + 1))) := by
  unfold fX3_mostFrequent_53
  by_cases q : h ≤ c
  · rw [if_pos q, if_pos q, if_pos q, lt1_e, nI_1]
  · rw [if_neg q, if_neg q, if_neg q, lt1_e, nI_1]
theorem most_loop {σ τ : St} {n t g rule len N r : Nat} {q79 : St → Int32 → Int32 → Int32 → Option (Int32 × St)} {q87 : St → Int32 → Int32 → Int32 → Option (Int32 × St)} (hN : 2000 ≤ N) (R : RP σ τ n t g rule len) (V : RV σ τ n r) (x : Int32) : ∀ (k i fX fM c : Nat) (bX bM : Int32), i + k = n → k < fX → k < fM → c ≤ n → ((c = 0 ∧ bM = -1 ∧ ∀ p, p < i → cor σ p = false) ∨ (bX = bM ∧ ∃ b : Nat, b < n ∧ bM = nI b ∧ cor σ b = true)) →
    ∃ (c' : Nat) (bX' bM' : Int32), ((c' = 0 ∧ bM' = -1 ∧ ∀ p, p < n → cor σ p = false) ∨ (bX' = bM' ∧ ∃ b : Nat, b < n ∧ bM' = nI b ∧ cor σ b = true)) ∧ fX2_mostFrequent_31 N q79 fX σ x bX (nI c) (nI i) = q79 σ x bX' (nI c') ∧ fX3_mostFrequent_21 N q87 fM τ x bM (nI c) (nI i) = q87 τ x bM' (nI c') := by
  have h10 := R.n10
  have h60 := V.2.2.1
  intro k
  induction k with
  | zero =>
    intro i fX fM c bX bM hi hfX hfM hc hh
    obtain ⟨a, rfl⟩ : ∃ k, fX = k + 1 := ⟨fX - 1, by omega⟩
    obtain ⟨b, rfl⟩ : ∃ k, fM = k + 1 := ⟨fM - 1, by omega⟩
    have hi : i = n := by omega
    subst hi
    refine ⟨c, bX, bM, hh, ?_, ?_⟩
    · show fX2_mostFrequent_31b N q79 _ σ _ _ _ (nI i) = _
      unfold fX2_mostFrequent_31b
      rw [R.xn, if_pos (nI_le (Nat.le_refl _) (by omega))]
    · show fX3_mostFrequent_21b N q87 _ τ _ _ _ (nI i) = _
      unfold fX3_mostFrequent_21b
      rw [R.mn, if_pos (nI_le (Nat.le_refl _) (by omega))]
  | succ k ih =>
    intro i fX fM c bX bM hi hfX hfM hc hh
    obtain ⟨a, rfl⟩ : ∃ k, fX = k + 1 := ⟨fX - 1, by omega⟩
    obtain ⟨b, rfl⟩ : ∃ k, fM = k + 1 := ⟨fM - 1, by omega⟩
    have eX : fX2_mostFrequent_31 N q79 (a + 1) σ x bX (nI c) (nI i) = fX2_mostFrequent_31b N q79 (fX2_mostFrequent_31 N q79 a) σ x bX (nI c) (nI i) := rfl
    have eM : fX3_mostFrequent_21 N q87 (b + 1) τ x bM (nI c) (nI i) = fX3_mostFrequent_21b N q87 (fX3_mostFrequent_21 N q87 b) τ x bM (nI c) (nI i) := rfl
    unfold fX2_mostFrequent_31b at eX
    unfold fX3_mostFrequent_21b at eM
    rw [R.xn, if_neg (nI_nge (by omega) (by omega)), X_isCorrect R.xn (by omega) h10, bd2_e] at eX
    rw [R.mn, if_neg (nI_nge (by omega) (by omega)), M_isCorrect R (by omega), bd2_e, R.mn] at eM
    by_cases hci : cor σ i = true
    · have hp := hd_pos (r := r) (show i < n by omega) hci
      have hl := hd_le σ r i n
      rw [if_pos hci, if_neg z10, X_holders hN R.xn V.1 h60 h10 (by omega) hci, bd2_e, lt1_e, lt1_e, nI_1] at eX
      rw [if_pos hci, if_neg z10, M_below hN R V (by omega) hci (Nat.le_refl _), bd2_e, M_53] at eM
      by_cases hle : hd σ r i n ≤ c
      · rw [if_pos (nI_le hle (by omega))] at eX eM
        have hh2 : bX = bM ∧ ∃ b : Nat, b < n ∧ bM = nI b ∧ cor σ b = true := hh.resolve_left (fun z => by omega)
        obtain ⟨c', bX', bM', g1, g2, g3⟩ := ih (i + 1) a b c bX bM (by omega) (by omega) (by omega) hc (Or.inr hh2)
        exact ⟨c', bX', bM', g1, eX.trans g2, eM.trans g3⟩
      · rw [if_neg (nI_nge (by omega) (by omega))] at eX eM
        obtain ⟨c', bX', bM', g1, g2, g3⟩ := ih (i + 1) a b (hd σ r i n) (nI i) (nI i) (by omega) (by omega) (by omega) (by omega) (Or.inr ⟨rfl, i, by omega, rfl, hci⟩)
        exact ⟨c', bX', bM', g1, eX.trans g2, eM.trans g3⟩
    · rw [if_neg hci, if_pos rfl, if_pos (nI_pos' (by omega)), lt1_e, nI_1] at eX
      rw [if_neg hci, if_pos rfl, M_53, if_pos (nI_pos' (by omega))] at eM
      have hh2 : (c = 0 ∧ bM = -1 ∧ ∀ p, p < i + 1 → cor σ p = false) ∨ (bX = bM ∧ ∃ b : Nat, b < n ∧ bM = nI b ∧ cor σ b = true) := by
        rcases hh with ⟨z1, z2, z3⟩ | z
        · refine Or.inl ⟨z1, z2, fun p hp => ?_⟩
          by_cases e : p = i
          · subst e; cases h : cor σ p
            · rfl
            · exact absurd h hci
          · exact z3 p (by omega)
        · exact Or.inr z
      obtain ⟨c', bX', bM', g1, g2, g3⟩ := ih (i + 1) a b c bX bM (by omega) (by omega) (by omega) hc hh2
      exact ⟨c', bX', bM', g1, eX.trans g2, eM.trans g3⟩
theorem ok_most {σ τ : St} {N : Nat} (hN : 2000 ≤ N) (H : Rl σ τ) (a : Int32) : Ok (fX2_mostFrequent N σ a) (fX3_mostFrequent N τ a) := by
  have H0 := H
  obtain ⟨n, t, g, rule, len, r, R, V⟩ := H
  have h10 := R.n10
  unfold fX2_mostFrequent fX3_mostFrequent
  rw [show (0 : Int64) = (0 : Int32).toInt64 from by decide, show (1 : Int64) = (1 : Int32).toInt64 from by decide, wiW]
  rcases isW_c a 0 1 with ⟨hw, -, -⟩ | ⟨hw, -⟩
  · rw [hw, bd0_e, bd0_e, if_neg z10, if_neg z10, X_correctSet hN R.xn h10, bd2_e]
    obtain ⟨c', bX', bM', g1, g2, g3⟩ := most_loop (q79 := fun σ49 x46 x47 x48 => if x46 = (0 : Int32) then (some (x47, σ49)) else (some (x48, σ49))) (q87 := fun σ53 x50 x51 x52 => if (0 : Int32) ≤ x51 then (if x50 = (0 : Int32) then (some (x51, σ53)) else (some (x52, σ53))) else (some ((-1005 : Int32), σ53))) hN R V a n 0 N N 0 0 (-1) (by omega) (by omega) (by omega) (by omega) (Or.inl ⟨rfl, rfl, fun p hp => by omega⟩)
    rw [show fX3_mostFrequent_21 N _ N τ a (-1) (0 : Int32) (0 : Int32) = _ from g3]
    by_cases hm : nI (mask (cor σ) n) = 0
    · rw [if_pos hm]
      rcases g1 with ⟨z1, rfl, z3⟩ | ⟨rfl, b, hb, rfl, hcb⟩
      · rw [if_neg (show ¬ (0 : Int32) ≤ -1 from by decide)]
        exact Ok.of rfl rfl H0
      · exfalso
        have hall := (mask0 h10).mp hm b hb
        rw [hcb] at hall
        cases hall
    · rw [if_neg hm, show fX2_mostFrequent_31 N _ N σ a (0 : Int32) (0 : Int32) (0 : Int32) = _ from g2]
      rcases g1 with ⟨z1, rfl, z3⟩ | ⟨rfl, b, hb, rfl, hcb⟩
      · exact absurd ((mask0 h10).mpr z3) hm
      · rw [if_pos (nI_pos' (by omega))]
        by_cases ha : a = 0
        · rw [if_pos ha, if_pos ha]; exact Ok.of rfl rfl H0
        · rw [if_neg ha, if_neg ha]; exact Ok.of rfl rfl H0
  · rw [hw, bd0_e, bd0_e, if_pos rfl, if_pos rfl]
    exact Ok.of rfl rfl H0
