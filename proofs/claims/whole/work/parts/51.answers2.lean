/-! the guarantee -/
theorem one_ct {p n : Nat} (h : p < n) : fb_ct (fun q => decide (q = p)) n = 1 := by
  have h1 := fb_ct_upd (fun _ => false) true h
  have h2 : fb_ct (fun _ => false) n = 0 := fb_ct_zero.mpr (fun _ _ => rfl)
  have h3 : fb_ct (fun k => if k = p then true else (fun _ => false) k) n = fb_ct (fun q => decide (q = p)) n := fb_ct_cong (fun k _ => by
    by_cases e : k = p
    · simp [e]
    · simp [e])
  rw [h2, h3] at h1
  simpa using h1
theorem row_ct {σ : St} {n p : Nat} (hp : p < n) : fb_ct (lkT σ 0 p) n + 1 ≤ n ∧ (fb_ct (lkT σ 0 p) n + 1 = n ↔ ∀ q, q < n → p ≠ q → lkT σ 0 p q = true) := by
  have h1 : fb_ct (fun q => lkT σ 0 p q || decide (q = p)) n = fb_ct (lkT σ 0 p) n + fb_ct (fun q => decide (q = p)) n := fb_ct_or (fun k hk z => by
    have e : k = p := of_decide_eq_true z.2
    have f := (of_decide_eq_true z.1 : p ≠ k ∧ _).1
    exact f e.symm)
  rw [one_ct hp] at h1
  have h2 := fb_ct_le (fun q => lkT σ 0 p q || decide (q = p)) n
  refine ⟨by omega, ?_⟩
  rw [← h1, fb_ct_all]
  constructor
  · intro h q hq hpq
    have := h q hq
    have e : decide (q = p) = false := decide_eq_false (fun z => hpq z.symm)
    rw [e, Bool.or_false] at this
    exact this
  · intro h q hq
    by_cases e : q = p
    · rw [decide_eq_true e, Bool.or_true]
    · rw [h q hq (fun z => e z.symm), Bool.true_or]
theorem sum_full {f : Nat → Nat} {c : Nat} : ∀ n, (∀ p, p < n → f p ≤ c) → (fb_sm f n = n * c ↔ ∀ p, p < n → f p = c) := by
  intro n hb
  have h1 := fb_sm_add f (fun p => c - f p) n
  have h2 : fb_sm (fun k => f k + (c - f k)) n = n * c := by
    rw [← fb_sm_const c n]
    exact fb_sm_cong (fun k hk => by have := hb k hk; omega)
  constructor
  · intro h p hp
    have h3 := fb_sm_zero (f := fun p => c - f p) (n := n) (by omega) p hp
    have h4 := hb p hp
    have h3 : c - f p = 0 := h3
    omega
  · intro h
    rw [← fb_sm_const c n]
    exact fb_sm_cong h
/-- all links are without delay -/
def gd (σ : St) (n : Nat) : Prop := ∀ p q, p < n → q < n → p ≠ q → gF σ 1 (10 * p + q) = 0
theorem lk_full {σ : St} {n : Nat} (h1 : 1 ≤ n) : lk σ 0 n n = n * (n - 1) ↔ gd σ n := by
  unfold lk
  rw [sum_full n (fun p hp => by have := (row_ct (σ := σ) hp).1; omega)]
  constructor
  · intro h p q hp hq hpq
    have h2 := h p hp
    have h3 := (row_ct (σ := σ) hp).2.mp (by omega) q hq hpq
    have h4 := of_decide_eq_true h3
    obtain ⟨-, h5, h6⟩ := h4
    rw [fa_eq]
    rw [fa_le] at h5 h6
    have e0 : (0 : Int32).toInt = 0 := rfl
    have e1 : (nI 0).toInt = 0 := rfl
    omega
  · intro h p hp
    have h3 := (row_ct (σ := σ) hp).2.mpr (fun q hq hpq => by
      unfold lkT
      rw [h p q hp hq hpq]
      exact decide_eq_true ⟨hpq, by decide, by decide⟩)
    omega
theorem lk_le (σ : St) (n p : Nat) : lk σ 0 n p ≤ p * n := fb_sm_bound (fun k _ => fb_ct_le _ n)
theorem X_guar {σ : St} {n t rule N : Nat} (hN : 2000 ≤ N) (hn : gI σ 0 = nI n) (h2 : 2 ≤ n) (h10 : n ≤ 10) (ht : gI σ 1 = nI t) (h3 : t ≤ 3) (hr : gI σ 4 = nI rule) (hr3 : rule ≤ 3) : ∃ v : Int32, fX2_isGuaranteed N σ = some (v, σ) ∧ (v = 0 ∨ v = 1) ∧ (v = 1 ↔ gd σ n ∧ fy σ n ≤ t ∧ 3 * t < n ∧ rule ≠ 2) := by
  have hl := lk_le σ n n
  have hnn : n * n ≤ 100 := Nat.mul_le_mul h10 h10
  have hn1 : n * (n - 1) ≤ n * n := Nat.mul_le_mul_left n (by omega)
  have hf := fy_le σ n
  unfold fX2_isGuaranteed
  rw [show fX2_linksWithDelay N σ (0 : Int32) = _ from X_links (mx := 0) hN hn h10, bd2_e, X_faulty hN hn h10, bd2_e, hn, ht, hr, li1, pk_sub (show 1 ≤ n by omega), pk_mul, li3, pk_mul]
  by_cases h1 : lk σ 0 n n = n * (n - 1)
  · rw [if_pos (show nI (lk σ 0 n n) = nI (n * (n - 1)) from by rw [h1])]
    have hg := (lk_full (by omega)).mp h1
    by_cases h4 : t < fy σ n
    · rw [if_pos (nI_lt h4 (by omega))]
      exact ⟨0, rfl, Or.inl rfl, fun z => absurd z (by decide), fun z => by omega⟩
    · rw [if_neg (nI_nlt (by omega) (by omega))]
      by_cases h5 : n ≤ 3 * t
      · rw [if_pos (nI_le h5 (by omega))]
        exact ⟨0, rfl, Or.inl rfl, fun z => absurd z (by decide), fun z => by omega⟩
      · rw [if_neg (nI_nge (by omega) (by omega))]
        by_cases h6 : rule = 2
        · rw [if_pos (cR_eq 2 h6)]
          exact ⟨0, rfl, Or.inl rfl, fun z => absurd z (by decide), fun z => absurd h6 z.2.2.2⟩
        · rw [if_neg (cR_ne 2 h6 (by omega) (by omega))]
          exact ⟨1, rfl, Or.inr rfl, fun _ => ⟨hg, by omega, by omega, h6⟩, fun _ => rfl⟩
  · rw [if_neg (nI_ne h1 (by omega) (by omega))]
    exact ⟨0, rfl, Or.inl rfl, fun z => absurd z (by decide), fun z => absurd ((lk_full (by omega)).mpr z.1) h1⟩
theorem M_gu_in {σ τ : St} {n t g rule len N p : Nat} {q97 : St → Int32 → Int32 → Int32 → Option (Int64 × St)} (R : RP σ τ n t g rule len) (hp : p < n) (x : Int32) : ∀ (k i fuel : Nat) (f : Int32), (f = 0 ∨ f = 1) → i + k = n → k < fuel →
    ∃ f', (f' = 0 ∨ f' = 1) ∧ (f' = 1 ↔ f = 1 ∧ ∀ q, i ≤ q → q < n → p ≠ q → gF σ 1 (10 * p + q) = 0) ∧ fX3_guarantee_51 N q97 fuel τ x f (nI p) (nI i) = q97 τ x f' (nI p) := by
  have h10 := R.n10
  intro k
  induction k with
  | zero =>
    intro i fuel f hf hi hfu
    obtain ⟨a, rfl⟩ : ∃ k, fuel = k + 1 := ⟨fuel - 1, by omega⟩
    have hi : i = n := by omega
    subst hi
    refine ⟨f, hf, ⟨fun z => ⟨z, fun q h1 h2 => by omega⟩, fun z => z.1⟩, ?_⟩
    show fX3_guarantee_51b N q97 _ τ _ _ _ (nI i) = _
    unfold fX3_guarantee_51b
    rw [R.mn, if_pos (nI_le (Nat.le_refl _) (by omega))]
  | succ k ih =>
    intro i fuel f hf hi hfu
    obtain ⟨a, rfl⟩ : ∃ k, fuel = k + 1 := ⟨fuel - 1, by omega⟩
    have e : fX3_guarantee_51 N q97 (a + 1) τ x f (nI p) (nI i) = fX3_guarantee_51b N q97 (fX3_guarantee_51 N q97 a) τ x f (nI p) (nI i) := rfl
    unfold fX3_guarantee_51b at e
    rw [R.mn, if_neg (nI_nge (by omega) (by omega)), lt1_e, lt1_e, nI_1] at e
    rcases hf with rfl | rfl
    · rw [if_pos rfl] at e
      obtain ⟨f', g1, g2, g3⟩ := ih (i + 1) a 0 (Or.inl rfl) (by omega) (by omega)
      exact ⟨f', g1, ⟨fun z => absurd (g2.mp z).1 (by decide), fun z => absurd z.1 (by decide)⟩, e.trans g3⟩
    · rw [if_neg z10] at e
      by_cases hpi : p = i
      · subst hpi
        rw [if_pos rfl] at e
        obtain ⟨f', g1, g2, g3⟩ := ih (p + 1) a 1 (Or.inr rfl) (by omega) (by omega)
        refine ⟨f', g1, ⟨fun z => ⟨rfl, fun q h1 h2 h3 => (g2.mp z).2 q (by omega) h2 h3⟩, fun z => g2.mpr ⟨rfl, fun q h1 h2 h3 => z.2 q (by omega) h2 h3⟩⟩, e.trans g3⟩
      · rw [if_neg (nI_ne hpi (by omega) (by omega)), ix01, if_neg (nI_in (by omega) (by omega)), nI_clamp (by omega), R.md _ (by omega)] at e
        by_cases hz : gF σ 1 (10 * p + i) = 0
        · rw [if_pos hz] at e
          obtain ⟨f', g1, g2, g3⟩ := ih (i + 1) a 1 (Or.inr rfl) (by omega) (by omega)
          refine ⟨f', g1, ⟨fun z => ⟨rfl, fun q h1 h2 h3 => ?_⟩, fun z => g2.mpr ⟨rfl, fun q h1 h2 h3 => z.2 q (by omega) h2 h3⟩⟩, e.trans g3⟩
          by_cases hq : q = i
          · subst hq; exact hz
          · exact (g2.mp z).2 q (by omega) h2 h3
        · rw [if_neg hz] at e
          obtain ⟨f', g1, g2, g3⟩ := ih (i + 1) a 0 (Or.inl rfl) (by omega) (by omega)
          exact ⟨f', g1, ⟨fun z => absurd (g2.mp z).1 (by decide), fun z => absurd (z.2 i (Nat.le_refl _) (by omega) hpi) hz⟩, e.trans g3⟩
theorem M_gu_out {σ τ : St} {n t g rule len N : Nat} {q103 : St → Int32 → Int32 → Option (Int64 × St)} (hN : 2000 ≤ N) (R : RP σ τ n t g rule len) (x : Int32) : ∀ (k i fuel : Nat) (f : Int32), (f = 0 ∨ f = 1) → i + k = n → k < fuel →
    ∃ f', (f' = 0 ∨ f' = 1) ∧ (f' = 1 ↔ f = 1 ∧ ∀ p q, i ≤ p → p < n → q < n → p ≠ q → gF σ 1 (10 * p + q) = 0) ∧ fX3_guarantee_40 N q103 fuel τ x f (nI i) = q103 τ x f' := by
  have h10 := R.n10
  intro k
  induction k with
  | zero =>
    intro i fuel f hf hi hfu
    obtain ⟨a, rfl⟩ : ∃ k, fuel = k + 1 := ⟨fuel - 1, by omega⟩
    have hi : i = n := by omega
    subst hi
    refine ⟨f, hf, ⟨fun z => ⟨z, fun p q h1 h2 => by omega⟩, fun z => z.1⟩, ?_⟩
    show fX3_guarantee_40b N q103 _ τ _ _ (nI i) = _
    unfold fX3_guarantee_40b
    rw [R.mn, if_pos (nI_le (Nat.le_refl _) (by omega))]
  | succ k ih =>
    intro i fuel f hf hi hfu
    obtain ⟨a, rfl⟩ : ∃ k, fuel = k + 1 := ⟨fuel - 1, by omega⟩
    have e : fX3_guarantee_40 N q103 (a + 1) τ x f (nI i) = fX3_guarantee_40b N q103 (fX3_guarantee_40 N q103 a) τ x f (nI i) := rfl
    unfold fX3_guarantee_40b at e
    rw [R.mn, if_neg (nI_nge (by omega) (by omega))] at e
    obtain ⟨f1, c1, c2, c3⟩ := M_gu_in (q97 := fun σ55 x52 x53 x54 => lt1 (x54 + (1 : Int32)) fun x57 => fX3_guarantee_40 N q103 a σ55 x52 x53 x57) R (show i < n by omega) x n 0 N f hf (by omega) (by omega)
    have e := e.trans c3
    rw [lt1_e, nI_1] at e
    obtain ⟨f', g1, g2, g3⟩ := ih (i + 1) a f1 c1 (by omega) (by omega)
    refine ⟨f', g1, ⟨fun z => ?_, fun z => ?_⟩, e.trans g3⟩
    · obtain ⟨y1, y2⟩ := g2.mp z
      obtain ⟨y3, y4⟩ := c2.mp y1
      refine ⟨y3, fun p q h1 h2 h3 h4 => ?_⟩
      by_cases hpi : p = i
      · subst hpi; exact y4 q (Nat.zero_le q) h3 h4
      · exact y2 p q (by omega) h2 h3 h4
    · exact g2.mpr ⟨c2.mpr ⟨z.1, fun q _ h2 h3 => z.2 i q (Nat.le_refl _) (by omega) h2 h3⟩, fun p q h1 h2 h3 h4 => z.2 p q (by omega) h2 h3 h4⟩
theorem ok_guarantee {σ τ : St} {N : Nat} (hN : 2000 ≤ N) (H : Rl σ τ) (a : Int32) : Ok (fX2_guarantee N σ a) (fX3_guarantee N τ a) := by
  have H0 := H
  obtain ⟨n, t, g, rule, len, r, R, V⟩ := H
  have h10 := R.n10
  have h2 := R.n2
  have h3 := R.t3
  have hr3 := R.r3
  have hf := fy_le σ n
  obtain ⟨v, x1, x2, x3⟩ := X_guar hN R.xn h2 h10 R.xt h3 R.xr hr3
  -- the reference's flag
  have key : ∀ f : Int32, (f = 0 ∨ f = 1) → (f = 1 ↔ fy σ n ≤ t ∧ 3 * t < n ∧ rule ≠ 2) → Ok (fX2_guarantee N σ a) (fX3_guarantee_37 N τ a f) := by
    intro f hf0 hf1
    obtain ⟨f', g1, g2, g3⟩ := M_gu_out (q103 := fun σ61 x59 x60 =>
       if x60 = (0 : Int32) then (bd0 (fX3_lost) fun r86 => some (r86, σ61))
        else (
        if (gI σ61 1) = (0 : Int32) then (
        if x59 = (0 : Int32) then (some ((0 : Int64), σ61))
        else (some ((1 : Int64), σ61)))
        else (
        if (gI σ61 2) = (0 : Int32) then (
        bd0 (fX3_part N ((gI σ61 1).toInt64) (((gI σ61 0) - ((2 : Int32) * (gI σ61 1))).toInt64) x59) fun r81 => some (r81, σ61))
        else (
        if x59 = (0 : Int32) then (some ((1 : Int64), σ61))
        else (
        if (gI σ61 2) = (1 : Int32) then (some ((2 : Int64), σ61))
        else (
        if (gI σ61 1) = (0 : Int32) then none else
        some (((((((gI σ61 0) - ((2 : Int32) * (gI σ61 1))) - (1 : Int32)) / (gI σ61 1)) + (1 : Int32)).toInt64), σ61))))))) hN R a n 0 N f hf0 (by omega) (by omega)
    have hv : v = f' := by
      have e : v = 1 ↔ f' = 1 := by
        rw [x3, g2, hf1]
        constructor
        · intro z; exact ⟨z.2, fun p q _ h2 h3 h4 => z.1 p q h2 h3 h4⟩
        · intro z; exact ⟨fun p q h2 h3 h4 => z.2 p q (Nat.zero_le p) h2 h3 h4, z.1⟩
      rcases x2 with rfl | rfl <;> rcases g1 with rfl | rfl
      · rfl
      · exact absurd (e.mpr rfl) (by decide)
      · exact absurd (e.mp rfl) (by decide)
      · rfl
    unfold fX3_guarantee_37
    rw [show fX3_guarantee_40 N _ N τ a f (0 : Int32) = _ from g3, ← hv]
    unfold fX2_guarantee fX3_lost
    rw [x1, bd2_e]
    rcases x2 with rfl | rfl
    · rw [if_pos rfl, if_pos rfl, bd0_e]
      exact Ok.of rfl rfl H0
    · obtain ⟨y1, y2, y3, y4⟩ := x3.mp rfl
      rw [if_neg z10, if_neg z10, R.xn, R.xt, R.xr, R.mn, R.mt, R.mr, li2, pk_mul, pk_sub (show 2 * t ≤ n by omega), nI_l (show t < 2147483648 by omega), nI_l (show n - 2 * t < 2147483648 by omega), show nI (n - 2 * t) - (1 : Int32) = nI (n - 2 * t - 1) from pk_sub (show 1 ≤ n - 2 * t by omega)]
      by_cases ht : t = 0
      · subst ht
        rw [if_pos (show nI 0 = 0 from rfl), if_pos (show nI 0 = 0 from rfl), show (1 : Int64) = lN 1 from rfl, X_frac hN (by decide) (by omega) (by omega), bd0_e, frac_0]
        by_cases hz : a = 0
        · rw [if_pos hz, if_pos hz]; exact Ok.of rfl rfl H0
        · rw [if_neg hz, if_neg hz]; exact Ok.of rfl rfl H0
      · rw [if_neg (show ¬ nI t = 0 from cR_ne 0 ht (by omega) (by omega)), if_neg (show ¬ nI t = 0 from cR_ne 0 ht (by omega) (by omega)), if_neg (show ¬ nI t = 0 from cR_ne 0 ht (by omega) (by omega)), if_neg (show ¬ nI t = 0 from cR_ne 0 ht (by omega) (by omega))]
        by_cases hr0 : rule = 0
        · subst hr0
          have hlt : -9223372036854775808 < (lN t).toInt := by rw [pk_lT (by omega)]; omega
          rw [if_pos (show nI 0 = 0 from rfl), if_pos (show nI 0 = 0 from rfl), X_frac hN hlt (by omega) (by omega), M_frac hN hlt (by omega) (by omega), bd0_e, bd0_e]
          exact Ok.of rfl rfl H0
        · rw [if_neg (show ¬ nI rule = 0 from cR_ne 0 hr0 (by omega) (by omega)), if_neg (show ¬ nI rule = 0 from cR_ne 0 hr0 (by omega) (by omega))]
          by_cases hr1 : rule = 1
          · subst hr1
            rw [if_pos (show nI 1 = 1 from rfl), if_pos (show nI 1 = 1 from rfl), show (2 : Int64) = lN 2 from rfl, X_frac hN (by decide) (by omega) (by omega), bd0_e, frac_1 2 (by omega) (by omega)]
            by_cases hz : a = 0
            · rw [if_pos hz, if_pos hz]; exact Ok.of rfl rfl H0
            · rw [if_neg hz, if_neg hz]; exact Ok.of rfl rfl H0
          · have hdv : (n - 2 * t - 1) / t ≤ 10 := Nat.le_trans (Nat.div_le_self _ _) (by omega)
            rw [if_neg (show ¬ nI rule = 1 from cR_ne 1 hr1 (by omega) (by omega)), if_neg (show ¬ nI rule = 1 from cR_ne 1 hr1 (by omega) (by omega)), pk_div (by omega) (by omega) (by omega)]
            generalize (n - 2 * t - 1) / t = w at hdv ⊢
            rw [nI_1, nI_l (by omega), X_frac hN (by decide) (by omega) (by omega), bd0_e, frac_1 _ (by omega) (by omega)]
            by_cases hz : a = 0
            · rw [if_pos hz, if_pos hz]; exact Ok.of rfl rfl H0
            · rw [if_neg hz, if_neg hz]; exact Ok.of rfl rfl H0
  unfold fX3_guarantee fX3_guarantee_36
  rw [M_faulty hN R, bd2_e, R.mn, R.mt, R.mr, li3, pk_mul]
  by_cases h4 : t < fy σ n
  · rw [if_pos (nI_lt h4 (by omega))]
    exact key 0 (Or.inl rfl) ⟨fun z => absurd z (by decide), fun z => by omega⟩
  · rw [if_neg (nI_nlt (by omega) (by omega))]
    by_cases h5 : n ≤ 3 * t
    · rw [if_pos (nI_le h5 (by omega))]
      exact key 0 (Or.inl rfl) ⟨fun z => absurd z (by decide), fun z => by omega⟩
    · rw [if_neg (nI_nge (by omega) (by omega))]
      by_cases h6 : rule = 2
      · rw [if_pos (cR_eq 2 h6)]
        exact key 0 (Or.inl rfl) ⟨fun z => absurd z (by decide), fun z => absurd h6 z.2.2⟩
      · rw [if_neg (cR_ne 2 h6 (by omega) (by omega))]
        exact key 1 (Or.inr rfl) ⟨fun _ => ⟨by omega, by omega, h6⟩, fun _ => rfl⟩
/-! the hull, and who is outside -/
theorem ex_b {σ τ : St} {n t g rule len s : Nat} (R : RP σ τ n t g rule len) (gr : Bool) : bnd (ex (fun p => val σ 0 p s) (cor σ) gr n).1 := by
  have h10 := R.n10
  have h := ex_in (f := fun p => val σ 0 p s) (c := cor σ) (gr := gr) n
  rcases h with z | ⟨-, ⟨p, hp, hc, he⟩, -⟩
  · exact bnd_of z.2.2
  · rw [he]
    have hb := R.bi p (by omega)
    show bnd (val σ 0 p s)
    rw [val_0]
    unfold inp
    by_cases q : s = 0
    · rw [if_pos q]; exact hb.1
    · rw [if_neg q]; exact hb.2
theorem out_eq {σ τ : St} {n t g rule len N s : Nat} (hN : 2000 ≤ N) (R : RP σ τ n t g rule len) (hs : s < 2) : fX3_outermost N τ (-1) (nI s) = some ((ex (fun p => val σ 0 p s) (cor σ) (decide (s = 1)) n).1, τ) := by
  rw [M_outI hN R hs, ex_cong n (fun _ _ => rfl) (fun p _ _ => (val_0 σ p s).symm)]
theorem ok_hull {σ τ : St} {N : Nat} (hN : 2000 ≤ N) (H : Rl σ τ) (a1 a2 : Int32) : Ok (fX2_hull N σ a1 a2) (fX3_hull N τ a1 a2) := by
  have H0 := H
  obtain ⟨n, t, g, rule, len, r, R, V⟩ := H
  have h10 := R.n10
  have hf := fy_le σ n
  unfold fX2_hull fX3_hull fX3_lost
  rw [X_correctSet hN R.xn h10, bd2_e, M_faulty hN R, bd2_e, R.mn]
  by_cases hm : nI (mask (cor σ) n) = 0
  · rw [if_pos hm, if_pos (by rw [fy_all.mpr ((mask0 h10).mp hm)]), bd0_e]
    exact Ok.of rfl rfl H0
  · have hy : fy σ n ≠ n := fun z => hm ((mask0 h10).mpr (fy_all.mp z))
    rw [if_neg hm, if_neg (nI_ne hy (by omega) (by omega)), show fX0_extremeEnd N σ 3 (0 : Int32) (nI (mask (cor σ) n)) a1 a1 = _ from X_ext (k := 0) hN h10 (by omega), bd2_e]
    have hb := ex_b (s := sd a1) R (decide (¬ a1 = 0))
    have hfr := asF hN R hb a2
    rw [hfr.1, bd2_e]
    by_cases hz : a1 = 0
    · rw [if_pos hz, show fX3_outermost N τ (-1) (0 : Int32) = _ from out_eq (s := 0) hN R (by omega), bd2_e]
      have e : (ex (fun p => val σ 0 p 0) (cor σ) (decide (0 = 1)) n).1 = (ex (fun p => val σ 0 p (sd a1)) (cor σ) (decide (¬ a1 = 0)) n).1 := by
        rw [sd_z hz, decide_eq_false (show ¬ ¬ a1 = 0 from fun z => z hz)]; rfl
      rw [e, hfr.2, bd0_e]
      exact Ok.of rfl rfl H0
    · rw [if_neg hz, show fX3_outermost N τ (-1) (1 : Int32) = _ from out_eq (s := 1) hN R (by omega), bd2_e]
      have e : (ex (fun p => val σ 0 p 1) (cor σ) (decide (1 = 1)) n).1 = (ex (fun p => val σ 0 p (sd a1)) (cor σ) (decide (¬ a1 = 0)) n).1 := by
        rw [sd_nz hz, decide_eq_true hz]; rfl
      rw [e, hfr.2, bd0_e]
      exact Ok.of rfl rfl H0
theorem outside_loop {σ τ : St} {n t g rule len N r : Nat} (R : RP σ τ n t g rule len) (V : RV σ τ n r) (lo hi : Int64) {q108 q88 : St → Int32 → Option (Int32 × St)} : ∀ (k i fX fM : Nat) (x : Int32), i + k = n → k < fX → k < fM →
    ∃ x' : Int32, fX2_outside_36 N q108 fX σ lo hi x (nI i) = q108 σ x' ∧ fX3_outside_20 N q88 fM τ x lo hi (nI i) = q88 τ x' := by
  have h10 := R.n10
  have h60 := V.2.2.1
  intro k
  induction k with
  | zero =>
    intro i fX fM x hi' hfX hfM
    obtain ⟨a, rfl⟩ : ∃ k, fX = k + 1 := ⟨fX - 1, by omega⟩
    obtain ⟨b, rfl⟩ : ∃ k, fM = k + 1 := ⟨fM - 1, by omega⟩
    have hi' : i = n := by omega
    subst hi'
    refine ⟨x, ?_, ?_⟩
    · show fX2_outside_36b N q108 _ σ _ _ _ (nI i) = _
      unfold fX2_outside_36b
      rw [R.xn, if_pos (nI_le (Nat.le_refl _) (by omega))]
    · show fX3_outside_20b N q88 _ τ _ _ _ (nI i) = _
      unfold fX3_outside_20b
      rw [R.mn, if_pos (nI_le (Nat.le_refl _) (by omega))]
  | succ k ih =>
    intro i fX fM x hi' hfX hfM
    obtain ⟨a, rfl⟩ : ∃ k, fX = k + 1 := ⟨fX - 1, by omega⟩
    obtain ⟨b, rfl⟩ : ∃ k, fM = k + 1 := ⟨fM - 1, by omega⟩
    have eX : fX2_outside_36 N q108 (a + 1) σ lo hi x (nI i) = fX2_outside_36b N q108 (fX2_outside_36 N q108 a) σ lo hi x (nI i) := rfl
    have eM : fX3_outside_20 N q88 (b + 1) τ x lo hi (nI i) = fX3_outside_20b N q88 (fX3_outside_20 N q88 b) τ x lo hi (nI i) := rfl
    unfold fX2_outside_36b at eX
    unfold fX3_outside_20b at eM
    rw [R.xn, if_neg (nI_nge (by omega) (by omega)), X_isCorrect R.xn (by omega) h10, bd2_e, V.1] at eX
    rw [R.mn, if_neg (nI_nge (by omega) (by omega)), M_isCorrect R (by omega), bd2_e, V.2.1] at eM
    by_cases hc : cor σ i = true
    · have v0 := (V.2.2.2 r i 0 (Nat.le_refl _) (by omega) (by omega) (cor_t.mp hc)).1
      have v1 := (V.2.2.2 r i 1 (Nat.le_refl _) (by omega) (by omega) (cor_t.mp hc)).1
      rw [if_pos hc, if_neg z10, X_end _ (by omega), bd2_e, V.1, sd_0, X_end _ (by omega), bd2_e, sd_1] at eX
      rw [if_pos hc, if_neg z10, show fX3_end τ (nI i) (nI r) 0 = _ from M_end (s := 0) (by omega), bd2_e, V.2.1, show fX3_end τ (nI i) (nI r) 1 = _ from M_end (s := 1) (by omega), bd2_e, v0, v1] at eM
      by_cases c1 : val σ r i 0 < lo
      · rw [if_pos c1, lt1_e, lt1_e, nI_1] at eX eM
        obtain ⟨x', g1, g2⟩ := ih (i + 1) a b (x ||| ((1 : Int32) <<< (nI i &&& 31))) (by omega) (by omega) (by omega)
        exact ⟨x', eX.trans g1, eM.trans g2⟩
      · rw [if_neg c1] at eX eM
        by_cases c2 : val σ r i 1 ≤ hi
        · rw [if_pos c2, lt1_e, nI_1] at eX
          rw [if_pos c2, lt1_e, lt1_e, nI_1, Int32.or_zero] at eM
          obtain ⟨x', g1, g2⟩ := ih (i + 1) a b x (by omega) (by omega) (by omega)
          exact ⟨x', eX.trans g1, eM.trans g2⟩
        · rw [if_neg c2, lt1_e, lt1_e, nI_1] at eX eM
          obtain ⟨x', g1, g2⟩ := ih (i + 1) a b (x ||| ((1 : Int32) <<< (nI i &&& 31))) (by omega) (by omega) (by omega)
          exact ⟨x', eX.trans g1, eM.trans g2⟩
    · rw [if_neg hc, if_pos rfl, lt1_e, nI_1] at eX
      rw [if_neg hc, if_pos rfl, lt1_e, lt1_e, nI_1, Int32.or_zero] at eM
      obtain ⟨x', g1, g2⟩ := ih (i + 1) a b x (by omega) (by omega) (by omega)
      exact ⟨x', eX.trans g1, eM.trans g2⟩
theorem ok_outside {σ τ : St} {N : Nat} (hN : 2000 ≤ N) (H : Rl σ τ) : Ok (fX2_outside N σ) (fX3_outside N τ) := by
  have H0 := H
  obtain ⟨n, t, g, rule, len, r, R, V⟩ := H
  have h10 := R.n10
  unfold fX2_outside fX3_outside
  rw [X_correctSet hN R.xn h10, bd2_e, show fX0_extremeEnd N σ 3 (0 : Int32) (nI (mask (cor σ) n)) 0 0 = _ from X_ext (k := 0) hN h10 (by omega), bd2_e, show fX0_extremeEnd N σ 3 (0 : Int32) (nI (mask (cor σ) n)) 1 1 = _ from X_ext (k := 0) hN h10 (by omega), bd2_e, sd_0, sd_1, show decide (¬ (1 : Int32) = 0) = true from by decide, show decide (¬ (0 : Int32) = 0) = false from by decide, show fX3_outermost N τ (-1) (0 : Int32) = _ from out_eq (s := 0) hN R (by omega), bd2_e, show fX3_outermost N τ (-1) (1 : Int32) = _ from out_eq (s := 1) hN R (by omega), bd2_e, show decide (0 = 1) = false from by decide, show decide (1 = 1) = true from by decide]
  obtain ⟨x', g1, g2⟩ := outside_loop (N := N) (q108 := fun σ51 x50 => some (x50, σ51)) (q88 := fun σ52 x51 => some (x51, σ52)) R V (ex (fun p => val σ 0 p 0) (cor σ) false n).1 (ex (fun p => val σ 0 p 1) (cor σ) true n).1 n 0 N N 0 (by omega) (by omega) (by omega)
  exact Ok.of g1 g2 H0
