/-! what is due, by what is got -/
theorem L_rest {σ0 σ : St} {n t g rule len r N q x s : Nat} (hN : 2000 ≤ N) (I0 : Iv σ0 n t g rule len r) (hco : Co n r σ0 σ) (hq : q < n) (hcq : cor σ0 q = true) (hs : s < 2) (hx : x < 100) : ∃ y0 y1 σ1 σ2, fX2_rest N σ (nI q) (nI x) (fl s) 0 = some (y0, σ1) ∧ fX2_rest N σ1 (nI q) (nI x) (fl s) 1 = some (y1, σ2) ∧ Co n r σ0 σ1 ∧ Co n r σ0 σ2 ∧ fL_units y0 y1 (lN g) = some (if x < (gr σ0 n g r q s).1 - 2 * t then (gr σ0 n g r q s).2 (t + x) else -9223372036854775808) ∧ (¬ x < (gr σ0 n g r q s).1 - 2 * t → y0 = -9223372036854775808) := by
  have h10 := I0.n10
  have I := I0.co hco
  have hc : cor σ q = true := by rw [hco.cor]; exact hcq
  obtain ⟨f, e1⟩ := X_rest (hi := fl s) (z := 0) hN I hq hc hx
  have c1 := hco.tr (Co.g5 n r σ f)
  obtain ⟨f', e2⟩ := X_rest (hi := fl s) (z := 1) hN (I0.co c1) hq (show cor (sG σ 5 f) q = true from hc) hx
  have c2 := c1.tr (Co.g5 n r (sG σ 5 f) f')
  rw [sd_fl hs] at e1 e2
  rw [gr_co hco h10 hq hs hcq] at e1
  rw [gr_co c1 h10 hq hs hcq] at e2
  refine ⟨_, _, _, _, e1, e2, c1, c2, ?_, fun h => if_neg h⟩
  by_cases hl : x < (gr σ0 n g r q s).1 - 2 * t
  · have hb := bnd_u (gr_bnd I0 hq hs hcq (t + x) (by omega))
    rw [if_pos hl, if_pos hl, if_pos hl]
    exact (frac_u I0.g1 I0.g7 hb.1 hb.2).1
  · rw [if_neg hl, if_neg hl, if_neg hl]
    exact u_no _ _
theorem L_recv {σ0 σ : St} {n t g rule len r N p q s : Nat} (hN : 2000 ≤ N) (I0 : Iv σ0 n t g rule len r) (hco : Co n r σ0 σ) (hq : q < n) (hcq : cor σ0 q = true) (hs : s < 2) (hp : p < n) : ∃ y0 y1, fX2_received N σ (nI q) (nI p) (fl s) 0 = some (y0, σ) ∧ fX2_received N σ (nI q) (nI p) (fl s) 1 = some (y1, σ) ∧ fL_units y0 y1 (lN g) = some (if rc σ0 q p = true then sv σ0 n g r p q s else -9223372036854775808) := by
  have h10 := I0.n10
  have I := I0.co hco
  have hc : cor σ q = true := by rw [hco.cor]; exact hcq
  have e1 := X_received (hi := fl s) (z := 0) hN I hq hc hp
  have e2 := X_received (hi := fl s) (z := 1) hN I hq hc hp
  rw [sd_fl hs, rc_co hco, sv_co hco hp h10 hq hs hcq] at e1 e2
  refine ⟨_, _, e1, e2, ?_⟩
  by_cases hr : rc σ0 q p = true
  · have hb := bnd_u ((X_sent (N := 2000) (hi := fl s) (Nat.le_refl _) I0 hp hq hcq (of_decide_eq_true hr)).2)
    rw [sd_fl hs] at hb
    rw [if_pos hr, if_pos hr, if_pos hr]
    exact (frac_u I0.g1 I0.g7 hb.1 hb.2).1
  · rw [if_neg hr, if_neg hr, if_neg hr]
    exact u_no _ _
theorem due_A {σ0 σ : St} {n t g rule len r N q s : Nat} {first : Int64} (hN : 2000 ≤ N) (I0 : Iv σ0 n t g rule len r) (hco : Co n r σ0 σ) (hq : q < n) (hcq : cor σ0 q = true) (hs : s < 2) {q155 : St → Int32 → Int32 → Int32 → Int32 → Int32 → Int32 → Int32 → Int32 → Int64 → Option (Int64 × St)} : ∀ (k i fuel : Nat), i + k = n → k < fuel →
    fL_due_69 N q155 fuel σ (nI n) (nI t) (nI q) (nI g) (nI rule) (nI r) (fl s) (nI (fb_ct (rc σ0 q) i)) (nI (fb_ct (fun p => rc σ0 q p && decide ((sv σ0 n g r p q s).toInt < first.toInt)) i)) first (nI i) = q155 σ (nI t) (nI q) (nI g) (nI rule) (nI r) (fl s) (nI (fb_ct (rc σ0 q) n)) (nI (fb_ct (fun p => rc σ0 q p && decide ((sv σ0 n g r p q s).toInt < first.toInt)) n)) first := by
  have h10 := I0.n10
  have hg7 := I0.g7
  intro k
  induction k with
  | zero =>
    intro i fuel hi hf
    obtain ⟨f, rfl⟩ : ∃ f, fuel = f + 1 := ⟨fuel - 1, by omega⟩
    have hi : i = n := by omega
    subst hi
    show fL_due_69b N q155 _ σ _ _ _ _ _ _ _ _ _ _ (nI i) = _
    unfold fL_due_69b
    rw [if_pos (nI_le (Nat.le_refl _) (by omega))]
  | succ k ih =>
    intro i fuel hi hf
    obtain ⟨f, rfl⟩ : ∃ f, fuel = f + 1 := ⟨fuel - 1, by omega⟩
    rw [← ih (i + 1) f (by omega) (by omega)]
    show fL_due_69b N q155 (fL_due_69 N q155 f) σ _ _ _ _ _ _ _ _ _ _ (nI i) = _
    unfold fL_due_69b
    obtain ⟨y0, y1, e1, e2, e3⟩ := L_recv (p := i) hN I0 hco hq hcq hs (by omega)
    rw [if_neg (nI_nge (by omega) (by omega)), e1, bd2_e, e2, bd2_e, nI_l (by omega), e3, bd0_e]
    have h119 : ∀ (its : Int64) (b : Nat), fL_due_119 N (fL_due_69 N q155 f) σ (nI n) (nI t) (nI q) (nI g) (nI rule) (nI r) (fl s) (nI (fb_ct (fun p => rc σ0 q p && decide ((sv σ0 n g r p q s).toInt < first.toInt)) i)) first (nI i) its (nI b) (nI (fb_ct (rc σ0 q) i)) = fL_due_69 N q155 f σ (nI n) (nI t) (nI q) (nI g) (nI rule) (nI r) (fl s) (nI (fb_ct (rc σ0 q) i + b)) (nI (if its ≤ (-9000000000000000000 : Int64) then fb_ct (fun p => rc σ0 q p && decide ((sv σ0 n g r p q s).toInt < first.toInt)) i else if first ≤ its then fb_ct (fun p => rc σ0 q p && decide ((sv σ0 n g r p q s).toInt < first.toInt)) i else fb_ct (fun p => rc σ0 q p && decide ((sv σ0 n g r p q s).toInt < first.toInt)) i + 1)) first (nI (i + 1)) := by
      intro its b
      unfold fL_due_119 fL_none
      rw [lt1_e, bd0_e, nI_add]
      by_cases h1 : its ≤ (-9000000000000000000 : Int64)
      · rw [if_pos h1, if_pos h1, lt1_e, lt1_e, nI_1, nI_a0]
      · rw [if_neg h1, if_neg h1]
        by_cases h2 : first ≤ its
        · rw [if_pos h2, if_pos h2, lt1_e, lt1_e, nI_1, nI_a0]
        · rw [if_neg h2, if_neg h2, lt1_e, lt1_e, nI_1, nI_1]
    unfold fL_none
    rw [bd0_e]
    by_cases hr : rc σ0 q i = true
    · have hb := bnd_u ((X_sent (N := 2000) (hi := fl s) (Nat.le_refl _) I0 (show i < n by omega) hq hcq (of_decide_eq_true hr)).2)
      rw [sd_fl hs] at hb
      rw [if_pos hr, if_neg (no_lo hb.1), show (1 : Int32) = nI 1 from rfl, h119, if_neg (no_lo hb.1), ct_t hr]
      by_cases hl : first ≤ sv σ0 n g r i q s
      · have hl' := (fa_le64 _ _).mp hl
        rw [if_pos hl, ct_f (p := fun p => rc σ0 q p && decide ((sv σ0 n g r p q s).toInt < first.toInt)) (by
          rw [decide_eq_false (by omega), Bool.and_false]; decide)]
      · have hl' : (sv σ0 n g r i q s).toInt < first.toInt := (fa_lt64 _ _).mp (nle_lt hl)
        rw [if_neg hl, ct_t (p := fun p => rc σ0 q p && decide ((sv σ0 n g r p q s).toInt < first.toInt)) (by
          rw [decide_eq_true hl', hr]; rfl)]
    · rw [if_neg hr, if_pos nv_lo, show (0 : Int32) = nI 0 from rfl, h119, if_pos nv_lo, ct_f hr, ct_f (p := fun p => rc σ0 q p && decide ((sv σ0 n g r p q s).toInt < first.toInt)) (by
        cases h : rc σ0 q i
        · rw [Bool.false_and]; decide
        · exact absurd h hr), Nat.add_zero]
theorem due_B {σ0 : St} {n t g rule len r N q s m d : Nat} {first : Int64} {less : Int32} (hN : 2000 ≤ N) (I0 : Iv σ0 n t g rule len r) (hq : q < n) (hcq : cor σ0 q = true) (hs : s < 2) (hd : 0 < d) (hd3 : d ≤ 3) (hm : m = (gr σ0 n g r q s).1 - 2 * t) (hm0 : 0 < m) {q393 : St → Int32 → Int32 → Int32 → Int32 → Int32 → Int64 → Int32 → Int64 → Int64 → Int32 → Int64 → Int64 → Option (Int64 × St)} : ∀ (k x fuel : Nat) (σ : St) (last sum left right : Int64), Co n r σ0 σ → x + k = m → k < fuel → sum.toInt = ss (gr σ0 n g r q s).2 t d x → (x = 0 → last = (gr σ0 n g r q s).2 t) → (0 < x → last = (gr σ0 n g r q s).2 (t + x - 1)) → ((m - 1) / 2 < x → left = (gr σ0 n g r q s).2 (t + (m - 1) / 2)) → (m / 2 < x → right = (gr σ0 n g r q s).2 (t + m / 2)) →
    ∃ σ' sum', Co n r σ0 σ' ∧ sum'.toInt = ss (gr σ0 n g r q s).2 t d m ∧ fL_due_261 N q393 fuel σ (nI t) (nI q) (nI g) (nI rule) (fl s) less first (nI m) last sum (nI (sc d x)) (nI d) left right (nI x) = q393 σ' (nI t) (nI q) (nI rule) (fl s) less first (nI m) ((gr σ0 n g r q s).2 (t + m - 1)) sum' (nI (sc d m)) ((gr σ0 n g r q s).2 (t + (m - 1) / 2)) ((gr σ0 n g r q s).2 (t + m / 2)) := by
  have h10 := I0.n10
  have h3 := I0.t3
  have hg7 := I0.g7
  have hgn := gr_n (σ := σ0) (n := n) (g := g) (r := r) (q := q) (s := s)
  have hasc : asc (gr σ0 n g r q s).2 (gr σ0 n g r q s).1 := ga_asc n
  have hbn := gr_bnd I0 hq hs hcq
  intro k
  induction k with
  | zero =>
    intro x fuel σ last sum left right hco hx hf h1 h2 h2' h3 h4
    obtain ⟨f, rfl⟩ : ∃ f, fuel = f + 1 := ⟨fuel - 1, by omega⟩
    have hx : x = m := by omega
    subst hx
    refine ⟨σ, sum, hco, h1, ?_⟩
    rw [h2' hm0, h3 (by omega), h4 (by omega)]
    show fL_due_261b N q393 _ σ _ _ _ _ _ _ _ _ _ _ _ _ _ _ (nI x) = _
    unfold fL_due_261b
    rw [if_pos (nI_le (Nat.le_refl _) (by omega))]
  | succ k ih =>
    intro x fuel σ last sum left right hco hx hf h1 h2 h2' h3' h4
    obtain ⟨f, rfl⟩ : ∃ f, fuel = f + 1 := ⟨fuel - 1, by omega⟩
    have hxm : x < m := by omega
    obtain ⟨y0, y1, σ1, σ2, e1, e2, -, c2, e3, -⟩ := L_rest (x := x) hN I0 hco hq hcq hs (by omega)
    rw [if_pos (by omega)] at e3
    have hlast : last ≤ (gr σ0 n g r q s).2 (t + x) := by
      rw [fa_le64]
      by_cases h0 : x = 0
      · rw [h2 h0, h0]; exact Int.le_refl _
      · rw [h2' (by omega)]; exact hasc (t + x - 1) (t + x) (by omega) (by omega)
    have hbx := hbn (t + x) (by omega)
    have hsb := ss_bnd (f := (gr σ0 n g r q s).2) (t := t) (d := d) x (fun j hj => hbn (t + j) (by omega))
    have hsl := sc_le d x
    -- one turn
    have h348 : ∀ (lf rg : Int64), fL_due_348 N (fL_due_261 N q393 f) σ2 (nI t) (nI q) (nI g) (nI rule) (fl s) less first (nI m) ((gr σ0 n g r q s).2 (t + x)) sum (nI (sc d x)) (nI d) lf (nI x) ((gr σ0 n g r q s).2 (t + x)) rg = fL_due_261 N q393 f σ2 (nI t) (nI q) (nI g) (nI rule) (fl s) less first (nI m) ((gr σ0 n g r q s).2 (t + x)) (if x % d = 0 then sum + (gr σ0 n g r q s).2 (t + x) else sum) (nI (sc d (x + 1))) (nI d) lf rg (nI (x + 1)) := by
      intro lf rg
      have esc : sc d (x + 1) = sc d x + (if x % d = 0 then 1 else 0) := rfl
      unfold fL_due_348
      rw [if_neg (cR_ne 0 (by omega) (by omega) (by omega)), pk_rem (by omega) hd (by omega), esc]
      by_cases hz : x % d = 0
      · rw [hz, if_pos (show nI 0 = 0 from rfl), if_pos rfl, if_pos rfl, lt1_e, if_neg (cR_ne 0 (by omega) (by omega) (by omega)), if_pos (show nI 0 = 0 from rfl), lt1_e, lt1_e, nI_1, nI_1]
      · have hz2 : x % d < d := Nat.mod_lt _ hd
        rw [if_neg (cR_ne 0 hz (by omega) (by omega)), if_neg hz, if_neg hz, lt1_e, if_neg (cR_ne 0 (by omega) (by omega) (by omega)), if_neg (cR_ne 0 hz (by omega) (by omega)), lt1_e, lt1_e, nI_1, nI_a0]
        rw [show sum + (0 : Int64) = sum from Int64.add_zero sum]; rfl
    have h330 : ∀ (lf : Int64), fL_due_330 N (fL_due_261 N q393 f) σ2 (nI t) (nI q) (nI g) (nI rule) (fl s) less first (nI m) ((gr σ0 n g r q s).2 (t + x)) sum (nI (sc d x)) (nI d) right (nI x) ((gr σ0 n g r q s).2 (t + x)) lf = fL_due_348 N (fL_due_261 N q393 f) σ2 (nI t) (nI q) (nI g) (nI rule) (fl s) less first (nI m) ((gr σ0 n g r q s).2 (t + x)) sum (nI (sc d x)) (nI d) lf (nI x) ((gr σ0 n g r q s).2 (t + x)) (if x = m / 2 then (gr σ0 n g r q s).2 (t + x) else right) := by
      intro lf
      unfold fL_due_330
      rw [show (2 : Int32) = nI 2 from rfl, pk_div (by omega) (by omega) (by omega)]
      by_cases hz : x = m / 2
      · rw [if_pos (by rw [← hz]), if_pos hz]
      · rw [if_neg (nI_ne hz (by omega) (by omega)), if_neg hz]
    have e : fL_due_261 N q393 (f + 1) σ (nI t) (nI q) (nI g) (nI rule) (fl s) less first (nI m) last sum (nI (sc d x)) (nI d) left right (nI x) = fL_due_348 N (fL_due_261 N q393 f) σ2 (nI t) (nI q) (nI g) (nI rule) (fl s) less first (nI m) ((gr σ0 n g r q s).2 (t + x)) sum (nI (sc d x)) (nI d) (if x = (m - 1) / 2 then (gr σ0 n g r q s).2 (t + x) else left) (nI x) ((gr σ0 n g r q s).2 (t + x)) (if x = m / 2 then (gr σ0 n g r q s).2 (t + x) else right) := by
      show fL_due_261b N q393 (fL_due_261 N q393 f) σ _ _ _ _ _ _ _ _ _ _ _ _ _ _ (nI x) = _
      unfold fL_due_261b
      rw [if_neg (nI_nge hxm (by omega)), e1, bd2_e, e2, bd2_e, nI_l (by omega), e3, bd0_e, if_pos hlast, show (1 : Int32) = nI 1 from rfl, pk_sub (by omega), show (2 : Int32) = nI 2 from rfl, pk_div (by omega) (by omega) (by omega)]
      by_cases hz : x = (m - 1) / 2
      · rw [if_pos (by rw [← hz]), if_pos hz]; exact h330 _
      · rw [if_neg (nI_ne hz (by omega) (by omega)), if_neg hz]; exact h330 _
    rw [e, h348]
    refine ih (x + 1) f σ2 _ _ _ _ c2 (by omega) (by omega) ?_ (fun z => by omega) (fun _ => by rw [show t + (x + 1) - 1 = t + x from by omega]) (fun hz => ?_) (fun hz => ?_)
    · have ess : ss (gr σ0 n g r q s).2 t d (x + 1) = ss (gr σ0 n g r q s).2 t d x + (if x % d = 0 then ((gr σ0 n g r q s).2 (t + x)).toInt else 0) := rfl
      rw [ess]
      by_cases hz : x % d = 0
      · unfold bnd at hbx
        rw [if_pos hz, if_pos hz, fb_addL (by omega) (by omega), h1]
      · rw [if_neg hz, if_neg hz, h1, Int.add_zero]
    · by_cases he : x = (m - 1) / 2
      · rw [if_pos he, ← he]
      · rw [if_neg he]; exact h3' (by omega)
    · by_cases he : x = m / 2
      · rw [if_pos he, ← he]
      · rw [if_neg he]; exact h4 (by omega)
theorem L_due {σ : St} {n t g rule len r N q s : Nat} (hN : 2000 ≤ N) (I : Iv σ n t g rule len r) (hq : q < n) (hcq : cor σ q = true) (hs : s < 2) : ∃ σ', Co n r σ σ' ∧ fL_due N σ (nI n) (nI t) (nI q) (nI s) = some (nx σ n t g rule r q s, σ') := by
  have h10 := I.n10
  have h3 := I.t3
  have hg7 := I.g7
  have hu3 := I.u3
  have h60 := I.r60
  have hgn := gr_n (σ := σ) (n := n) (g := g) (r := r) (q := q) (s := s)
  have hg1 := gr_1 σ n g r q s
  have hbn := gr_bnd I hq hs hcq
  obtain ⟨-, -, -, hnx⟩ := X_next (hi := fl s) hN I hq hcq
  rw [sd_fl hs] at hnx
  have cnt := X_counts hN I
  -- the first number that is left
  obtain ⟨y0, y1, σ1, σ2, e1, e2, -, c2, e3, -⟩ := L_rest (x := 0) hN I Co.rf hq hcq hs (by omega)
  have I2 := I.co c2
  have e32 : fL_due_32 N σ (nI n) (nI t) (nI q) (nI g) (nI rule) (nI r) (fl s) = fL_due N σ (nI n) (nI t) (nI q) (nI s) := by
    unfold fL_due
    rw [cnt.2.1, bd2_e, cnt.2.2.2.2.1, bd2_e, cnt.2.2.1, bd2_e]
    rcases (show s = 0 ∨ s = 1 by omega) with rfl | rfl
    · rw [if_neg (show ¬ nI 0 = 1 by decide)]; rfl
    · rw [if_pos (show nI 1 = 1 from rfl)]; rfl
  rw [← e32]
  unfold fL_due_32
  rw [show fX2_rest N σ (nI q) (0 : Int32) (fl s) (0 : Int32) = _ from e1, bd2_e, show fX2_rest N σ1 (nI q) (0 : Int32) (fl s) (1 : Int32) = _ from e2, bd2_e, nI_l (by omega), e3, bd0_e]
  generalize hfirst : (if 0 < (gr σ n g r q s).1 - 2 * t then (gr σ n g r q s).2 (t + 0) else (-9223372036854775808 : Int64)) = first
  have hA := fun q155 => due_A (first := first) (q155 := q155) hN I c2 hq hcq hs n 0 N (by omega) (by omega)
  have hA := fun q155 => (show fL_due_69 N q155 N σ2 (nI n) (nI t) (nI q) (nI g) (nI rule) (nI r) (fl s) (0 : Int32) (0 : Int32) first (0 : Int32) = _ from hA q155)
  rw [hA, ← hg1]
  generalize hless : fb_ct (fun p => rc σ q p && decide ((sv σ n g r p q s).toInt < first.toInt)) n = less
  obtain ⟨x1, y1, v1, v2, v3⟩ := L_val hN I2 hq (Nat.le_refl r) hs
  rw [v1, bd2_e, v2, bd2_e, nI_l (by omega), v3, bd0_e, li2, pk_mul, show vv σ2 r q s = val σ r q s from by
    rw [show vv σ2 r q s = val σ2 r q s from if_pos (by rw [c2.cor]; exact hcq)]
    exact c2.2.2.2.2 r q s (Nat.le_refl _) hq hs hcq]
  by_cases hl : 2 * t < (gr σ n g r q s).1
  · have hn := hnx hl
    rw [if_pos (nI_lt hl (by omega)), lt1_e, pk_sub (by omega)]
    have hf : first = (gr σ n g r q s).2 t := by
      rw [← hfirst, if_pos (by omega), Nat.add_zero]
    have hle : less ≤ t := by
      by_cases h : less ≤ t
      · exact h
      · exfalso
        have hz := asc_le (f := (gr σ n g r q s).2) (m := (gr σ n g r q s).1) (j := t) (z := first.toInt - 1) (ga_asc n) (by omega) (by
          have hc := ga_cle (v := fun p => sv σ n g r p q s) (c := rc σ q) (first.toInt - 1) n
          have hm := ct_mono (n := n) (a := fun p => rc σ q p && decide ((sv σ n g r p q s).toInt < first.toInt)) (b := fun p => rc σ q p && decide ((sv σ n g r p q s).toInt ≤ first.toInt - 1)) (fun p hp ha => by
            simp only [Bool.and_eq_true, decide_eq_true_eq] at ha ⊢
            exact ⟨ha.1, by omega⟩)
          have hc' : fb_ct (cle (gr σ n g r q s).2 (first.toInt - 1)) (gr σ n g r q s).1 = _ := hc
          omega)
        rw [hf] at hz
        omega
    -- the loop over what is left
    have fin : ∀ d, d = stp rule t → ∃ σ', Co n r σ σ' ∧ fL_due_250 N σ2 (nI t) (nI q) (nI g) (nI rule) (fl s) (nI less) first (nI ((gr σ n g r q s).1 - 2 * t)) first 0 0 (nI d) = some (nx σ n t g rule r q s, σ') := by
      intro d hd
      have hd0 := stp_pos rule t
      have hd3 := stp_le (rule := rule) h3
      have hq393 : ∀ (σ' : St) (sum' : Int64), Co n r σ σ' → sum'.toInt = ss (gr σ n g r q s).2 t d ((gr σ n g r q s).1 - 2 * t) → ∃ σ'', Co n r σ σ'' ∧ (fun (σ277 : St) (x265 x266 x267 x268 x269 : Int32) (x270 : Int64) (x271 : Int32) (x272 x273 : Int64) (x274 : Int32) (x275 x276 : Int64) =>
 if x265 < x269 then (
  bd0 (fL_none) fun r283 =>
  some (r283, σ277))
  else (
  bd2 (fX2_rest N σ277 x266 x271 x268 (0 : Int32)) fun r286 σ285 =>
  bd0 (fL_none) fun r288 =>
  if r288 < r286 then (
  bd0 (fL_none) fun r293 =>
  some (r293, σ285))
  else (
  bd2 (fX2_rest N σ285 x266 (-1 : Int32) x268 (0 : Int32)) fun r296 σ295 =>
  bd0 (fL_none) fun r298 =>
  if r296 ≤ r298 then (
  if x267 = (1 : Int32) then (
  bd0 (fL_down (x270 + x272) (2 : Int64)) fun r313 =>
  some (r313, σ295))
  else (
  if x267 = (2 : Int32) then (
  bd0 (fL_down (x275 + x276) (2 : Int64)) fun r311 =>
  some (r311, σ295))
  else (
  bd0 (fL_down x273 (x274.toInt64)) fun r309 =>
  some (r309, σ295))))
  else (
  bd0 (fL_none) fun r315 =>
  some (r315, σ295))))) σ' (nI t) (nI q) (nI rule) (fl s) (nI less) first (nI ((gr σ n g r q s).1 - 2 * t)) ((gr σ n g r q s).2 (t + ((gr σ n g r q s).1 - 2 * t) - 1)) sum' (nI (sc d ((gr σ n g r q s).1 - 2 * t))) ((gr σ n g r q s).2 (t + ((gr σ n g r q s).1 - 2 * t - 1) / 2)) ((gr σ n g r q s).2 (t + ((gr σ n g r q s).1 - 2 * t) / 2)) = some (nx σ n t g rule r q s, σ'') := by
        intro σ' sum' hc hsum
        obtain ⟨z0, z1, σ3, -, w1, -, c3, -, -, w2⟩ := L_rest (x := (gr σ n g r q s).1 - 2 * t) hN I hc hq hcq hs (by omega)
        have w2 := w2 (Nat.lt_irrefl _)
        subst w2
        have I3 := I.co c3
        refine ⟨σ3, c3, ?_⟩
        show (if nI t < nI less then _ else _) = _
        unfold fL_none
        rw [if_neg (nI_nlt hle (by omega)), w1, bd2_e, bd0_e, if_neg (show ¬ (-9000000000000000000 : Int64) < -9223372036854775808 by decide), X_rest_neg I3 hq (by rw [c3.cor]; exact hcq), bd2_e, bd0_e, if_pos nv_lo]
        by_cases h1 : rule = 1
        · subst h1
          have hb1 := hbn t (by omega)
          have hb2 := hbn (t + ((gr σ n g r q s).1 - 2 * t) - 1) (by omega)
          obtain ⟨v, -, f2, f3, -⟩ := floor_eq (c := 2) (by omega) (by omega) (sumB_2 hb1 hb2)
          rw [if_pos (show nI 1 = 1 from rfl), hf, show (2 : Int64) = lN 2 from rfl, f2, bd0_e]
          have hv : v = nx σ n t g 1 r q s := by
            unfold bnd at hb1 hb2
            rw [fa_eq64, hn, f3, fb_addL (by omega) (by omega)]
            unfold cmb
            rw [if_pos rfl, show t + ((gr σ n g r q s).1 - 2 * t) - 1 = (gr σ n g r q s).1 - 1 - t from by omega]; rfl
          rw [hv]
        · rw [if_neg (cR_ne 1 h1 (by omega) (by omega))]
          by_cases h2 : rule = 2
          · subst h2
            have hb1 := hbn (t + ((gr σ n g r q s).1 - 2 * t - 1) / 2) (by omega)
            have hb2 := hbn (t + ((gr σ n g r q s).1 - 2 * t) / 2) (by omega)
            obtain ⟨v, -, f2, f3, -⟩ := floor_eq (c := 2) (by omega) (by omega) (sumB_2 hb1 hb2)
            rw [if_pos (show nI 2 = 2 from rfl), show (2 : Int64) = lN 2 from rfl, f2, bd0_e]
            have hv : v = nx σ n t g 2 r q s := by
              unfold bnd at hb1 hb2
              rw [fa_eq64, hn, f3, fb_addL (by omega) (by omega)]
              unfold cmb
              rw [if_neg (by omega), if_pos rfl]; rfl
            rw [hv]
          · rw [if_neg (cR_ne 2 h2 (by omega) (by omega))]
            have hp := sc_pos (d := d) (show 0 < (gr σ n g r q s).1 - 2 * t by omega)
            have hl2 := sc_le d ((gr σ n g r q s).1 - 2 * t)
            have hb := ss_bnd (f := (gr σ n g r q s).2) (t := t) (d := d) ((gr σ n g r q s).1 - 2 * t) (fun j hj => hbn (t + j) (by omega))
            obtain ⟨v, -, f2, f3, -⟩ := floor_eq (S := sum') hp (by omega) ⟨by rw [hsum]; exact hb.1, by rw [hsum]; exact hb.2⟩
            rw [nI_l (by omega), f2, bd0_e]
            have hv : v = nx σ n t g rule r q s := by
              rw [fa_eq64, hn, f3, hsum]
              unfold cmb
              rw [if_neg h1, if_neg h2, hd]
            rw [hv]
      obtain ⟨σ', sum', b1, b2, b3⟩ := due_B (first := first) (less := nI less) (d := d) hN I hq hcq hs (by omega) (by omega) rfl (show 0 < (gr σ n g r q s).1 - 2 * t by omega) (q393 := _) ((gr σ n g r q s).1 - 2 * t) 0 N σ2 first 0 0 0 c2 (by omega) (by omega) rfl (fun _ => hf) (fun z => by omega) (fun z => by omega) (fun z => by omega)
      obtain ⟨σ'', d1, d2⟩ := hq393 σ' sum' b1 b2
      exact ⟨σ'', d1, b3.trans d2⟩
    by_cases h3' : rule = 3
    · rw [if_pos (cR_eq 3 h3')]
      by_cases ht : t ≤ 1
      · rw [if_pos (cR_le 1 ht (by omega))]
        exact fin 1 (by unfold stp; rw [if_neg (by omega)])
      · rw [if_neg (cR_nle 1 (by omega) (by omega))]
        exact fin t (by unfold stp; rw [if_pos ⟨h3', by omega⟩])
    · rw [if_neg (cR_ne 3 h3' (by omega) (by omega))]
      exact fin 1 (by unfold stp; rw [if_neg (fun z => h3' z.1)])
  · rw [if_neg (nI_nlt (by omega) (by omega))]
    obtain ⟨f', w1⟩ := X_rest (x := 0) (hi := fl s) (z := 1) hN I2 hq (by rw [c2.cor]; exact hcq) (by omega)
    rw [sd_fl hs, gr_co c2 h10 hq hs hcq, if_neg (by omega)] at w1
    unfold fL_none
    rw [show fX2_rest N σ2 (nI q) (0 : Int32) (fl s) (1 : Int32) = _ from w1, bd2_e, bd0_e, if_pos nv_lo]
    refine ⟨sG σ2 5 f', c2.tr (Co.g5 n r σ2 f'), ?_⟩
    unfold nx
    rw [if_pos (by omega)]
